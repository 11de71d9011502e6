/-! THE PATH of two vertices: what is held by holders; what is left of the tree -/
theorem bc_two {x : Int32} (h : 2 ≤ bc x) : ∃ a b, a < 12 ∧ b < 12 ∧ a ≠ b ∧ bt x a = true ∧ bt x b = true := by
  obtain ⟨a, ha⟩ := bc_lo (x := x) (by omega)
  obtain ⟨a1, a2, -⟩ := lo_some.mp ha
  have e := bc_clr_eq a1 a2
  obtain ⟨b, hb⟩ := bc_lo (x := x &&& (jk_bit a ^^^ (-1))) (by omega)
  obtain ⟨b1, b2, -⟩ := lo_some.mp hb
  rw [bt_and, bt_not _ (by omega), bt_bit (by omega) (by omega)] at b2
  simp at b2
  exact ⟨a, b, a1, b1, fun z => b2.2 z.symm, a2, b2.1⟩
theorem bc_two' {x : Int32} {a b : Nat} (ha : a < 12) (hb : b < 12) (ne : a ≠ b) (h1 : bt x a = true) (h2 : bt x b = true) : 2 ≤ bc x := by
  have e := bc_clr_eq ha h1
  have := bc_pos (x := x &&& (jk_bit a ^^^ (-1))) hb (by rw [bt_and, bt_not _ (by omega), bt_bit (by omega) (by omega), h2]; simp; exact fun z => ne z.symm)
  omega
/-- closed under taking ends away -/
def wy_K (f : jF) (p q : Nat) (S : Int32) : Prop := ∀ k, k < 12 → bt S k = true → k ≠ p → k ≠ q → 2 ≤ bc (f.2.1 k &&& S)
/-- the way: the greatest part of the tree without other ends -/
def wy_is (f : jF) (p q : Nat) (X : Int32) : Prop := sub X (jt_T f q) ∧ wy_K f p q X ∧ ∀ S, sub S (jt_T f q) → wy_K f p q S → sub S X
theorem sub_anti {x y : Int32} (h1 : sub x y) (h2 : sub y x) : x = y := bt_ext fun k _ => by
  cases a : bt x k
  · cases b : bt y k
    · rfl
    · rw [h2 k b] at a; cases a
  · exact (h1 k a).symm
theorem wy_uniq {f : jF} {p q : Nat} {X Y : Int32} (hx : wy_is f p q X) (hy : wy_is f p q Y) : X = Y := sub_anti (hy.2.2 X hx.1 hx.2.1) (hx.2.2 Y hy.1 hy.2.1)
noncomputable def jq_way (f : jF) (p q : Nat) : Int32 := Classical.epsilon (wy_is f p q)
theorem wy_eq {f : jF} {p q : Nat} {X : Int32} (h : wy_is f p q X) : jq_way f p q = X := wy_uniq (Classical.epsilon_spec ⟨X, h⟩) h
-- by holders
def wy_p (par : Nat → Option Nat) : Nat → Option Nat → Int32 → Int32
  | 0, _, S => S
  | _ + 1, none, S => S
  | m + 1, some x, S => wy_p par m (par x) (S ||| jk_bit x)
/-- a walk over a tree: each but the root is held by one ahead of it, and all edges are so -/
def wy_J (f : jF) (q : Nat) (o : Nat → Nat) (par : Nat → Option Nat) (sz : Nat) : Prop := 0 < sz ∧ sz ≤ 12 ∧ o 0 = q ∧ par q = none ∧ (∀ i, i < sz → o i < 12 ∧ bt (jt_T f q) (o i) = true) ∧ (∀ x, bt (jt_T f q) x = true → ∃ i, i < sz ∧ o i = x) ∧ (∀ i j, i < sz → j < sz → o i = o j → i = j) ∧ (∀ i, 0 < i → i < sz → ∃ j, j < i ∧ par (o i) = some (o j) ∧ bt (f.2.1 (o j)) (o i) = true) ∧ ∀ i j, j < i → i < sz → bt (f.2.1 (o j)) (o i) = true → par (o i) = some (o j)
theorem wy_J_of {f : jF} (B : jf_B f) {q : Nat} (hq : q < 12) {o : Nat → Nat} {par : Nat → Option Nat} {dep : Nat → Nat} {sz : Nat} (J : wk_J f f.2.2 0 0 q o par dep sz (jt_T f q) sz) (h0 : 0 < sz) (oq : o 0 = q) (pq : par q = none) : wy_J f q o par sz := by
  obtain ⟨⟨⟨a1, a2, a3, a4⟩, a5, a6, -, -, -, -, -, a9, a10, a11, -⟩, d1, d2, d3, d4⟩ := J
  refine ⟨h0, by have := bc_le (jt_T f q); omega, oq, pq, a5, a6, a11, fun i i0 hi => ?_, a10⟩
  obtain ⟨l1, l2⟩ := d3 (o i) (a5 i hi).2
  cases hd : dep (o i) with
  | zero =>
    rw [hd] at l1
    have l1 : bt (jk_bit q) (o i) = true := l1
    rw [bt_bit (by omega) (by have := (a5 i hi).1; omega)] at l1
    have := of_decide_eq_true l1
    have := a11 i 0 hi h0 (by rw [this, oq])
    omega
  | succ k =>
    rw [hd] at l1 l2
    rcases (jt_L_succ f q k (o i)).mp l1 with z | ⟨y, y1, y2, y3⟩
    · rw [l2 k (by omega)] at z; cases z
    · have ty : bt (jt_T f q) y = true := jt_L_min (C := fun y => bt (jt_T f q) y = true) hq (jt_T_self f hq) (fun x y h1 h2 h3 => jt_T_closed B.n hq h2 h1 h3) k y y2
      obtain ⟨j, j1, rfl⟩ := a6 y ty
      have dj : dep (o j) ≤ k := by
        obtain ⟨-, m2⟩ := d3 (o j) ty
        rcases Nat.lt_or_ge k (dep (o j)) with z | z
        · rw [m2 k z] at y2; cases y2
        · exact z
      have ji : j < i := by
        rcases Nat.lt_or_ge j i with z | z
        · exact z
        · have := d1 i j z j1; omega
      exact ⟨j, ji, a10 i j ji hi y3, y3⟩
theorem wy_p_facts {f : jF} {q : Nat} {o : Nat → Nat} {par : Nat → Option Nat} {sz : Nat} (J : wy_J f q o par sz) : ∀ (m i : Nat) (acc : Int32), i < sz → i < m → (∀ y, bt acc y = true → bt (wy_p par m (some (o i)) acc) y = true) ∧ bt (wy_p par m (some (o i)) acc) (o i) = true ∧ bt (wy_p par m (some (o i)) acc) q = true ∧ (∀ y, bt (wy_p par m (some (o i)) acc) y = true → bt acc y = true ∨ ∃ j, j ≤ i ∧ y = o j ∧ (j = i ∨ ∃ jc, jc ≤ i ∧ bt (wy_p par m (some (o i)) acc) (o jc) = true ∧ par (o jc) = some y)) ∧ (∀ y, bt (wy_p par m (some (o i)) acc) y = true → bt acc y = true ∨ y = q ∨ ∃ z, bt (wy_p par m (some (o i)) acc) z = true ∧ par y = some z)
  | 0, i, acc, hi, hm => by omega
  | m + 1, i, acc, hi, hm => by
    obtain ⟨h0, h12, oq, pq, j1, j2, j3, j4, j5⟩ := id J
    obtain ⟨oi, ti⟩ := j1 i hi
    have sb : ∀ y, y < 32 → bt (acc ||| jk_bit (o i)) y = (bt acc y || decide (y = o i)) := fun y hy => by
      rw [bt_or, bt_bit (by omega) hy]
    have sb' : ∀ y, bt (acc ||| jk_bit (o i)) y = true → bt acc y = true ∨ y = o i := fun y h => by
      by_cases z : y < 32
      · rw [sb y z] at h; simp at h; exact h
      · rw [bt_big _ (by omega)] at h; cases h
    have up : ∀ y, bt acc y = true → bt (acc ||| jk_bit (o i)) y = true := fun y h => by rw [bt_or, h]; rfl
    have own : bt (acc ||| jk_bit (o i)) (o i) = true := by rw [sb _ (by omega)]; simp
    show (∀ y, bt acc y = true → bt (wy_p par m (par (o i)) (acc ||| jk_bit (o i))) y = true) ∧ bt (wy_p par m (par (o i)) (acc ||| jk_bit (o i))) (o i) = true ∧ bt (wy_p par m (par (o i)) (acc ||| jk_bit (o i))) q = true ∧ (∀ y, bt (wy_p par m (par (o i)) (acc ||| jk_bit (o i))) y = true → bt acc y = true ∨ ∃ j, j ≤ i ∧ y = o j ∧ (j = i ∨ ∃ jc, jc ≤ i ∧ bt (wy_p par m (par (o i)) (acc ||| jk_bit (o i))) (o jc) = true ∧ par (o jc) = some y)) ∧ (∀ y, bt (wy_p par m (par (o i)) (acc ||| jk_bit (o i))) y = true → bt acc y = true ∨ y = q ∨ ∃ z, bt (wy_p par m (par (o i)) (acc ||| jk_bit (o i))) z = true ∧ par y = some z)
    by_cases i0 : i = 0
    · subst i0
      have e : wy_p par m (par (o 0)) (acc ||| jk_bit (o 0)) = acc ||| jk_bit (o 0) := by
        rw [oq, pq]
        cases m <;> rfl
      rw [e]
      refine ⟨up, own, by rw [← oq]; exact own, fun y hy => ?_, fun y hy => ?_⟩
      · rcases sb' y hy with z | z
        · exact Or.inl z
        · exact Or.inr ⟨0, by omega, z, Or.inl rfl⟩
      · rcases sb' y hy with z | z
        · exact Or.inl z
        · exact Or.inr (Or.inl (z.trans oq))
    · obtain ⟨j, ji, pj, ej⟩ := j4 i (by omega) hi
      rw [pj]
      obtain ⟨b1, b2, b3, b4, b5⟩ := wy_p_facts J m j (acc ||| jk_bit (o i)) (by omega) (by omega)
      refine ⟨fun y hy => b1 y (up y hy), b1 _ own, b3, fun y hy => ?_, fun y hy => ?_⟩
      · rcases b4 y hy with z | ⟨j', l, e, z⟩
        · rcases sb' y z with z | z
          · exact Or.inl z
          · exact Or.inr ⟨i, Nat.le_refl _, z, Or.inl rfl⟩
        · refine Or.inr ⟨j', by omega, e, Or.inr ?_⟩
          rcases z with z | ⟨jc, l2, z1, z2⟩
          · exact ⟨i, Nat.le_refl _, b1 _ own, by rw [e, z]; exact pj⟩
          · exact ⟨jc, by omega, z1, z2⟩
      · rcases b5 y hy with z | z | z
        · rcases sb' y z with z | z
          · exact Or.inl z
          · exact Or.inr (Or.inr ⟨o j, b2, by rw [z]; exact pj⟩)
        · exact Or.inr (Or.inl z)
        · exact Or.inr (Or.inr z)
/-- what the holders hold is the way -/
theorem wy_walk {f : jF} (B : jf_B f) {q : Nat} (hq : q < 12) {o : Nat → Nat} {par : Nat → Option Nat} {sz : Nat} (J : wy_J f q o par sz) {p : Nat} (tp : bt (jt_T f q) p = true) : wy_is f p q (wy_p par 12 (some p) 0) ∧ bt (wy_p par 12 (some p) 0) p = true := by
  obtain ⟨h0, h12, oq, pq, j1, j2, j3, j4, j5⟩ := id J
  obtain ⟨ip, hip, rfl⟩ := j2 p tp
  obtain ⟨-, b2, b3, b4, b5⟩ := wy_p_facts J 12 ip 0 hip (by omega)
  generalize hS : wy_p par 12 (some (o ip)) 0 = S at *
  have b4' : ∀ y, bt S y = true → ∃ j, j ≤ ip ∧ y = o j ∧ (j = ip ∨ ∃ jc, jc ≤ ip ∧ bt S (o jc) = true ∧ par (o jc) = some y) := fun y hy => (b4 y hy).resolve_left (by rw [bt_0]; simp)
  have b5' : ∀ y, bt S y = true → y = q ∨ ∃ z, bt S z = true ∧ par y = some z := fun y hy => (b5 y hy).resolve_left (by rw [bt_0]; simp)
  -- a holder is ahead
  have ahead : ∀ i z, i < sz → par (o i) = some z → ∃ j, j < i ∧ z = o j ∧ bt (f.2.1 (o j)) (o i) = true := fun i z hi e => by
    by_cases i0 : i = 0
    · subst i0; rw [oq, pq] at e; cases e
    · obtain ⟨j, ji, pj, ej⟩ := j4 i (by omega) hi
      rw [pj] at e
      injection e with e
      exact ⟨j, ji, e.symm, ej⟩
  refine ⟨⟨fun y hy => ?_, fun k hk hS2 kp kq => ?_, fun X hX KX => ?_⟩, b2⟩
  · obtain ⟨j, l, rfl, -⟩ := b4' y hy
    exact (j1 j (by omega)).2
  · obtain ⟨j, l, rfl, z⟩ := b4' k hS2
    have z := z.resolve_left (fun w => kp (by rw [w]))
    obtain ⟨jc, lc, c1, c2⟩ := z
    obtain ⟨w, w1, w2⟩ := (b5' _ hS2).resolve_left kq
    obtain ⟨jz, z1, rfl, z3⟩ := ahead j w (by omega) w2
    obtain ⟨jy, y1, y2, y3⟩ := ahead jc (o j) (by omega) c2
    obtain rfl : j = jy := j3 j jy (by omega) (by omega) y2
    have o1 := (j1 jc (by omega)).1
    have o2 := (j1 jz (by omega)).1
    refine bc_two' o1 o2 (fun e => ?_) ?_ ?_
    · have := j3 jc jz (by omega) (by omega) e; omega
    · rw [bt_and, c1, y3]; rfl
    · rw [bt_and, w1, B.sym hk o2, z3]; rfl
  · -- what has no other ends is on the way
    have main : ∀ m i, sz - i ≤ m → i < sz → bt X (o i) = true → bt S (o i) = true := by
      intro m
      induction m with
      | zero => intro i l hi; omega
      | succ m ihm =>
        intro i l hi hx
        by_cases kp : o i = o ip
        · rw [kp]; exact b2
        by_cases kq : o i = q
        · rw [kq]; exact b3
        obtain ⟨a, b, ha, hb, ne, xa, xb⟩ := bc_two (KX (o i) (j1 i hi).1 hx kp kq)
        have child : ∀ y, y < 12 → bt (f.2.1 (o i) &&& X) y = true → par (o i) ≠ some y → ∃ k, i < k ∧ k < sz ∧ y = o k ∧ par (o k) = some (o i) ∧ bt X (o k) = true := fun y hy e np => by
          rw [bt_and] at e
          simp at e
          obtain ⟨k, hk, rfl⟩ := j2 y (hX y e.2)
          rcases Nat.lt_trichotomy k i with z | z | z
          · exact absurd (j5 i k z hi (by rw [B.sym (j1 k hk).1 (j1 i hi).1]; exact e.1)) np
          · subst z; rw [B.irr (j1 k hk).1] at e; cases e.1
          · exact ⟨k, z, hk, rfl, j5 k i z hk e.1, e.2⟩
        have fin : ∀ k, i < k → k < sz → par (o k) = some (o i) → bt X (o k) = true → bt S (o i) = true := fun k ik hk pk xk => by
          have sk := ihm k (by omega) hk xk
          rcases b5' _ sk with z | ⟨z, z1, z2⟩
          · rw [z, pq] at pk; cases pk
          · rw [pk] at z2; injection z2 with z2; rw [z2]; exact z1
        by_cases pa : par (o i) = some a
        · obtain ⟨k, k1, k2, k3, k4, k5⟩ := child b hb xb (fun z => ne (by rw [pa] at z; injection z))
          exact fin k k1 k2 k4 k5
        · obtain ⟨k, k1, k2, k3, k4, k5⟩ := child a ha xa pa
          exact fin k k1 k2 k4 k5
    intro y hy
    obtain ⟨i, hi, rfl⟩ := j2 y (hX y hy)
    exact main sz i (by omega) hi hy
section
variable {rc : Nat → Nat × (Nat → Int32)} {h h' : jxH} {σ : jSt} {P : Nat → Prop} {f : jF} {a b : Nat}
theorem wk_path_l {o : Nat → Nat} {par : Nat → Option Nat} {dep : Nat → Nat} {sz : Nat} {T : Int32} (H : wk_at h a o par dep sz T) (hp : ∀ x y, bt T x = true → par x = some y → bt T y = true) (hT : ∀ x, bt T x = true → x < 12) (d : Nat) : ∀ (m k : Nat) (x : Option Nat) (S : Int32), k + m = 12 → (∀ y, x = some y → bt T y = true) → jb_327 rc (d + 1) 17 [(0, .ref a), (4, .int S), (5, .int (jk_on x)), (6, .int (Int32.ofNat k))] [] h = some (some (.int (wy_p par m x S)), h)
  | 0, k, x, S, e, _ => by
    obtain rfl : k = 12 := by omega
    rw [je_327_17, if_pos (by decide)]; rfl
  | m + 1, k, none, S, e, _ => by
    rw [je_327_17, if_neg (jk_n12 (by omega)), cl_isPlace, jk_cI, show jp_place (jk_on none) = false from by decide, jk_if0, if_neg (by decide)]; rfl
  | m + 1, k, some x, S, e, hx => by
    have tx := hx x rfl
    rw [je_327_17, if_neg (jk_n12 (by omega)), cl_isPlace, jk_cI, show jk_on (some x) = Int32.ofNat x from rfl, jp_place_of (hT x tx), jk_if0, if_pos rfl, wk_holderOf H (hT x tx) tx, jk_cI, jk_succ]
    exact wk_path_l H hp hT d m (k + 1) (par x) _ (by omega) (fun y e => hp x y tx e)
/-- path() -/
theorem wk_path (H : wk_ok h a) (G : fo_at h b f) (W : jf_W f) (hab : b + 3 ≤ a ∨ a + 4 ≤ b) {p q : Nat} (hp : p < 12) (hq : q < 12) (sq : bt f.2.2 q = true) : ∃ h' X, (∀ d, jx_C rc (d + 4) 327 [.ref a, .ref b, .int (Int32.ofNat p), .int (Int32.ofNat q)] h = some (some (.int X), h')) ∧ wk_ok h' a ∧ Fr (jI a 4) h h' ∧ (bt (jt_T f q) p = true → wy_is f p q X ∧ bt X p = true ∧ (p = q → X = jk_bit p)) ∧ (bt (jt_T f q) p = false → X = 0) := by
  obtain ⟨h1, o, par, dep, sz, r1, r2, J, h0, oq, pq, F⟩ := wk_from (rc := rc) H G W hab hq sq
  have J2 := wy_J_of W.1 hq J h0 oq pq
  obtain ⟨-, h12, -, -, j1, j2, j3, j4, j5⟩ := id J2
  have is10 : jx_is (jx_at h a) 10 = true := by obtain ⟨⟨s1, s2, o⟩, -⟩ := H; rw [o]; rfl
  have st : ∀ d, jx_C rc (d + 4) 327 [.ref a, .ref b, .int (Int32.ofNat p), .int (Int32.ofNat q)] h = _ := fun d => by
    rw [je_327, if_pos is10, r1, jk_cV, wk_g4 r2, jk_bs, cl_isIn, jk_cI, jp_in_of hp, jk_if0]
  by_cases tp : bt (jt_T f q) p = true
  · have L := fun d => wk_path_l (rc := rc) r2 (fun x y hx e => by
      obtain ⟨i, hi, rfl⟩ := j2 x hx
      by_cases i0 : i = 0
      · subst i0; rw [oq, pq] at e; cases e
      · obtain ⟨j, ji, pj, -⟩ := j4 i (by omega) hi
        rw [pj] at e; injection e with e; rw [← e]; exact (j1 j (by omega)).2) (fun x hx => by obtain ⟨i, hi, rfl⟩ := j2 x hx; exact (j1 i hi).1) d 12 0 (some p) 0 (by omega) (fun y e => by cases e; exact tp)
    refine ⟨h1, wy_p par 12 (some p) 0, fun d => ?_, wk_okof r2, F, fun _ => ⟨(wy_walk W.1 hq J2 tp).1, (wy_walk W.1 hq J2 tp).2, fun e => ?_⟩, fun z => by rw [tp] at z; cases z⟩
    · rw [st d, if_pos tp]
      exact L (d + 2)
    · subst e
      show wy_p par 11 (par p) (0 ||| jk_bit p) = _
      rw [pq, Int32.zero_or]
      rfl
  · refine ⟨h1, 0, fun d => ?_, wk_okof r2, F, fun z => absurd z tp, fun _ => rfl⟩
    rw [st d, if_neg tp]
end
