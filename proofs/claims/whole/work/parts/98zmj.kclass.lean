/-! KERNEL: the class's run leaves the number of solutions -/
section
variable {p : Nat} {f : jF} {lf : Int64 → Int64} {o : Nat → Nat} {par : Nat → Option Nat} {sz : Nat}
def tI (s : sgS) (x : Nat) : Int := (s.1 x).toInt
def rI (s : sgS) (x : Nat) : Int := (s.2.1 x).toInt
/-- a place's row -/
def kr (p : Nat) (s : sgS) (y : Nat) (S : Int) (x : Nat → Int) : Prop := (bt s.2.2.1 y = true → (p : Int) ∣ x y) ∧ (bt s.2.2.1 y = false → (p : Int) ∣ tI s y * x y + rI s y * S)
def kS (f : jF) (o : Nat → Nat) (i n : Nat) (x : Nat → Int) : Int := js (fun j => ec f (o i) (o j) * x (o j)) n
/-- the system of what is left -/
def ks (p : Nat) (f : jF) (o : Nat → Nat) (s : sgS) (n : Nat) (x : Nat → Int) : Prop := ∀ i, i < n → kr p s (o i) (kS f o i n x) x
def kI (p : Nat) (s : sgS) (y : Nat) : Prop := 0 ≤ tI s y ∧ tI s y < p ∧ 0 ≤ rI s y ∧ rI s y < p ∧ un p (rI s y)
def kFM (p : Nat) (lf : Int64 → Int64) : Prop := ∀ x, 0 ≤ (lf x).toInt ∧ (lf x).toInt < p ∧ (p : Int) ∣ (lf x).toInt - x.toInt
theorem dv_congr {a b : Int} (h : (p : Int) ∣ a - b) : ((p : Int) ∣ a) ↔ (p : Int) ∣ b := by
  constructor
  · intro z
    have := Int.dvd_sub z h
    rw [show a - (a - b) = b by omega] at this; exact this
  · intro z
    have := Int.dvd_add h z
    rw [Int.sub_add_cancel] at this; exact this
theorem kr_congr {s t : sgS} {y : Nat} {S S' : Int} {x x' : Nat → Int} (h1 : bt s.2.2.1 y = bt t.2.2.1 y) (h2 : x y = x' y) (h3 : bt s.2.2.1 y = false → ((p : Int) ∣ tI s y * x y + rI s y * S ↔ (p : Int) ∣ tI t y * x' y + rI t y * S')) : kr p s y S x ↔ kr p t y S' x' := by
  unfold kr
  rw [← h1, ← h2]
  rw [← h2] at h3
  constructor
  · rintro ⟨a, b⟩; exact ⟨a, fun z => (h3 z).mp (b z)⟩
  · rintro ⟨a, b⟩; exact ⟨a, fun z => (h3 z).mpr (b z)⟩
theorem ks_congr {s t : sgS} (h : s.1 = t.1 ∧ s.2.1 = t.2.1 ∧ s.2.2.1 = t.2.2.1) (n : Nat) (x : Nat → Int) : ks p f o s n x ↔ ks p f o t n x := by
  obtain ⟨h1, h2, h3⟩ := h
  unfold ks kr tI rI
  rw [h1, h2, h3]
/-- how the last place stands in the others' rows -/
theorem ec_last (O : iv_O (ec f) o par sz) {i n : Nat} (hi : i < n) (hn : n < sz) : ec f (o i) (o n) = if par (o n) = some (o i) then 1 else 0 := by
  obtain ⟨a1, a2, a3, a4⟩ := O
  rw [a1]
  by_cases c : par (o n) = some (o i)
  · rw [if_pos c]
    obtain ⟨j, -, -, h⟩ := a3 n hn (o i) c
    exact h
  · rw [if_neg c]; exact a4 n i hi hn c
theorem kS_succ (O : iv_O (ec f) o par sz) {i n : Nat} (hi : i < n) (hn : n < sz) (x : Nat → Int) (a : Int) : kS f o i (n + 1) (xu x (o n) a) = kS f o i n x + (if par (o n) = some (o i) then a else 0) := by
  unfold kS
  show js (fun j => ec f (o i) (o j) * xu x (o n) a (o j)) n + ec f (o i) (o n) * xu x (o n) a (o n) = _
  rw [xu_at, ec_last O hi hn, js_congr (h := fun j => ec f (o i) (o j) * x (o j)) (fun k hk => by
    try dsimp only
    rw [xu_ne _ _ (fun z => by have := O.2.1 k n (by omega) hn z; omega)])]
  congr 1
  split
  · rw [Int.one_mul]
  · rw [Int.zero_mul]
theorem kS_last (O : iv_O (ec f) o par sz) (irr : ∀ i, i < sz → ec f (o i) (o i) = 0) {n : Nat} (hn : n < sz) (x : Nat → Int) (a : Int) : kS f o n (n + 1) (xu x (o n) a) = match par (o n) with
    | none => 0
    | some q => x q := by
  unfold kS
  show js (fun j => ec f (o n) (o j) * xu x (o n) a (o j)) n + ec f (o n) (o n) * xu x (o n) a (o n) = _
  rw [irr n hn, Int.zero_mul, Int.add_zero]
  cases c : par (o n) with
  | none =>
    show _ = (0 : Int)
    rw [js_congr (h := fun _ => 0) (fun k hk => by
      try dsimp only
      rw [O.1, ec_last O hk hn, if_neg (by rw [c]; simp), Int.zero_mul]), js_0]
  | some q =>
    obtain ⟨j, j1, rfl, -⟩ := O.2.2.1 n hn q c
    show _ = x (o j)
    rw [js_congr (h := fun k => if k = j then x (o k) else 0) (fun k hk => by
      try dsimp only
      rw [O.1, ec_last O hk hn, c]
      by_cases z : k = j
      · rw [if_pos z, z, if_pos rfl, Int.one_mul, xu_ne _ _ (fun z => by have := O.2.1 j n (by omega) hn z; omega)]
      · rw [if_neg z, if_neg (fun y => z (O.2.1 k j (by omega) (by omega) (by injection y with y; exact y.symm))), Int.zero_mul])]
    rw [js_delta (v := j) (fun k => x (o k)), if_pos j1]
theorem fm_mul (FM : kFM p lf) (hp : pr6 p) {s : sgS} {a b : Nat} (Ia : kI p s a) (Ib : kI p s b) : (p : Int) ∣ (lf (s.1 a * s.1 b - s.2.1 a * s.2.1 b)).toInt - (tI s a * tI s b - rI s a * rI s b) ∧ (p : Int) ∣ (lf (s.2.1 a * s.1 b)).toInt - rI s a * tI s b := by
  have p13 := (pr6_pos hp).2
  obtain ⟨a1, a2, a3, a4, -⟩ := Ia
  obtain ⟨b1, b2, b3, b4, -⟩ := Ib
  have bd : ∀ {u v : Int}, 0 ≤ u → u < p → 0 ≤ v → v < p → 0 ≤ u * v ∧ u * v ≤ 169 := fun {u v} h1 h2 h3 h4 => by
    refine ⟨Int.mul_nonneg h1 h3, ?_⟩
    have e1 := Int.mul_le_mul_of_nonneg_right (show u ≤ 13 by omega) h3
    omega
  obtain ⟨c1, c2⟩ := bd a1 a2 b1 b2
  obtain ⟨c3, c4⟩ := bd a3 a4 b3 b4
  obtain ⟨c5, c6⟩ := bd a3 a4 b1 b2
  have e : ∀ u : Int64, u = Int64.ofInt u.toInt := fun u => (Int64.ofInt_toInt u).symm
  have e1 : s.1 a * s.1 b - s.2.1 a * s.2.1 b = Int64.ofInt (tI s a * tI s b - rI s a * rI s b) := by
    rw [Int64.ofInt_sub, Int64.ofInt_mul, Int64.ofInt_mul]
    unfold tI rI
    rw [← e, ← e, ← e, ← e]
  have e2 : s.2.1 a * s.1 b = Int64.ofInt (rI s a * tI s b) := by
    rw [Int64.ofInt_mul]
    unfold tI rI
    rw [← e, ← e]
  constructor
  · have := (FM (s.1 a * s.1 b - s.2.1 a * s.2.1 b)).2.2
    have h : (s.1 a * s.1 b - s.2.1 a * s.2.1 b).toInt = tI s a * tI s b - rI s a * rI s b := by
      rw [e1, lI_int (by omega) (by omega)]
    rw [h] at this; exact this
  · have := (FM (s.2.1 a * s.1 b)).2.2
    have h : (s.2.1 a * s.1 b).toInt = rI s a * tI s b := by
      rw [e2, lI_int (by omega) (by omega)]
    rw [h] at this; exact this
/-- one vertex: as many solutions as are left, or p times as many -/
theorem ks_step (O : iv_O (ec f) o par sz) (irr : ∀ i, i < sz → ec f (o i) (o i) = 0) (o12 : ∀ i, i < sz → o i < 12) (hp : pr6 p) (FM : kFM p lf) {n : Nat} (hn : n < sz) {s : sgS} (I : ∀ i, i < n + 1 → kI p s (o i)) : (∀ i, i < n → kI p (sg_s lf par (o n) s) (o i)) ∧ ∃ k : Nat, (sg_s lf par (o n) s).2.2.2.2.2 = s.2.2.2.2.2 + Int32.ofNat k ∧ k ≤ 1 ∧ ∀ x, js (fun a => ind (ks p f o s (n + 1) (xu x (o n) (a : Int)))) p = (p : Int) ^ k * ind (ks p f o (sg_s lf par (o n) s) n x) := by
  have p2 := pr6_pos hp
  have In := I n (by omega)
  have t0 : (lg_cmp (s.1 (o n)) 0 = 0) ↔ tI s (o n) = 0 := by
    have : s.1 (o n) = Int64.ofInt (tI s (o n)) := (Int64.ofInt_toInt _).symm
    rw [this]
    exact lI_0 (by have := In.1; omega) (by have := In.2.1; omega)
  have z0 : s.2.2.2.2.2 = s.2.2.2.2.2 + Int32.ofNat 0 := (Int32.add_zero _).symm
  -- the rows of one more
  have rows : ∀ (x : Nat → Int) (a : Nat), ks p f o s (n + 1) (xu x (o n) (a : Int)) ↔ (∀ i, i < n → kr p s (o i) (kS f o i n x + (if par (o n) = some (o i) then (a : Int) else 0)) x) ∧ (bt s.2.2.1 (o n) = true → (p : Int) ∣ a) ∧ (bt s.2.2.1 (o n) = false → (p : Int) ∣ tI s (o n) * a + rI s (o n) * (match par (o n) with
      | none => 0
      | some q => x q)) := by
    intro x a
    unfold ks
    have last : kr p s (o n) (kS f o n (n + 1) (xu x (o n) (a : Int))) (xu x (o n) (a : Int)) ↔ (bt s.2.2.1 (o n) = true → (p : Int) ∣ a) ∧ (bt s.2.2.1 (o n) = false → (p : Int) ∣ tI s (o n) * a + rI s (o n) * (match par (o n) with
      | none => 0
      | some q => x q)) := by
      unfold kr
      rw [xu_at, kS_last O irr hn]
    have each : ∀ i, i < n → (kr p s (o i) (kS f o i (n + 1) (xu x (o n) (a : Int))) (xu x (o n) (a : Int)) ↔ kr p s (o i) (kS f o i n x + (if par (o n) = some (o i) then (a : Int) else 0)) x) := fun i hi => by
      rw [kS_succ O hi hn]
      unfold kr
      rw [xu_ne _ _ (fun z => by have := O.2.1 i n (by omega) hn z; omega)]
    constructor
    · intro h
      exact ⟨fun i hi => (each i hi).mp (h i (by omega)), last.mp (h n (by omega))⟩
    · rintro ⟨h1, h2⟩ i hi
      by_cases z : i = n
      · rw [z]; exact last.mpr h2
      · exact (each i (by omega)).mpr (h1 i (by omega))
  cases c : par (o n) with
  | none =>
    have rows : ∀ (x : Nat → Int) (a : Nat), ks p f o s (n + 1) (xu x (o n) (a : Int)) ↔ ks p f o s n x ∧ (bt s.2.2.1 (o n) = true → (p : Int) ∣ a) ∧ (bt s.2.2.1 (o n) = false → (p : Int) ∣ tI s (o n) * a + 0) := fun x a => by
      rw [rows x a, c]
      have : rI s (o n) * (0 : Int) = 0 := Int.mul_zero _
      unfold ks
      constructor
      · rintro ⟨h1, h2, h3⟩
        exact ⟨fun i hi => by have := h1 i hi; rw [if_neg (by simp), Int.add_zero] at this; exact this, h2, fun y => by have := h3 y; dsimp only at this; rw [Int.mul_zero] at this; exact this⟩
      · rintro ⟨h1, h2, h3⟩
        exact ⟨fun i hi => by rw [if_neg (by simp), Int.add_zero]; exact h1 i hi, h2, fun y => by (try dsimp only); rw [Int.mul_zero]; exact h3 y⟩
    cases pn : bt s.2.2.1 (o n)
    · by_cases t : tI s (o n) = 0
      · have es : sg_s lf par (o n) s = (s.1, s.2.1, s.2.2.1, s.2.2.2.1, s.2.2.2.2.1, s.2.2.2.2.2 + 1) := by
          unfold sg_s; rw [if_neg (by rw [pn]; simp), if_pos (t0.mpr t), c]
        rw [es]
        refine ⟨fun i hi => I i (by omega), 1, rfl, by omega, fun x => ?_⟩
        rw [Int.pow_succ, Int.pow_zero, Int.one_mul]
        refine js_all (fun a ha => ?_)
        rw [rows x a]
        constructor
        · intro h; exact h.1
        · intro h; exact ⟨h, (fun y => (by rw [pn] at y; cases y)), fun _ => by rw [t, Int.zero_mul]; exact ⟨0, by omega⟩⟩
      · have es : sg_s lf par (o n) s = (s.1, s.2.1, s.2.2.1, s.2.2.2.1 + (if sgIs s (o n) = true then 1 else 0), s.2.2.2.2.1 + (if sgIs s (o n) = true then 0 else 1), s.2.2.2.2.2) := by
          unfold sg_s sg_n; rw [if_neg (by rw [pn]; simp), if_neg (fun y => t (t0.mp y)), c]
        rw [es]
        refine ⟨fun i hi => I i (by omega), 0, z0, by omega, fun x => ?_⟩
        rw [Int.pow_zero, Int.one_mul]
        have ut : un p (tI s (o n)) := un_of hp (fun y => by
          have := Int.le_of_dvd (by have := In.1; omega) y
          have := In.2.1; omega)
        refine js_lin (b := 0) (by omega) ut (fun a ha => ?_)
        rw [rows x a]
        constructor
        · intro h; exact ⟨h.2.2 pn, h.1⟩
        · intro h; exact ⟨h.2, (fun y => (by rw [pn] at y; cases y)), fun _ => h.1⟩
    · have es : sg_s lf par (o n) s = (s.1, s.2.1, s.2.2.1, s.2.2.2.1 + 1, s.2.2.2.2.1 + 1, s.2.2.2.2.2) := by unfold sg_s; rw [if_pos pn]
      rw [es]
      refine ⟨fun i hi => I i (by omega), 0, z0, by omega, fun x => ?_⟩
      rw [Int.pow_zero, Int.one_mul]
      refine js_lin (b := 0) (by omega) (un_1 p) (fun a ha => ?_)
      rw [rows x a, Int.one_mul, Int.add_zero]
      constructor
      · intro h; exact ⟨h.2.1 pn, h.1⟩
      · intro h; exact ⟨h.2, fun _ => h.1, (fun y => (by rw [pn] at y; cases y))⟩
  | some q =>
    obtain ⟨j, j1, rfl, -⟩ := O.2.2.1 n hn q c
    have Ij := I j (by omega)
    have q12 := o12 j (by omega)
    have ne : ∀ {i}, i < n → i ≠ j → ¬ o i = o j := fun {i} hi y z => y (O.2.1 i j (by omega) (by omega) z)
    -- the holder's row apart
    have rows : ∀ (x : Nat → Int) (a : Nat), ks p f o s (n + 1) (xu x (o n) (a : Int)) ↔ ((∀ i, i < n → i ≠ j → kr p s (o i) (kS f o i n x) x) ∧ kr p s (o j) (kS f o j n x + a) x) ∧ (bt s.2.2.1 (o n) = true → (p : Int) ∣ a) ∧ (bt s.2.2.1 (o n) = false → (p : Int) ∣ tI s (o n) * a + rI s (o n) * x (o j)) := fun x a => by
      rw [rows x a, c]
      constructor
      · rintro ⟨h1, h2, h3⟩
        refine ⟨⟨fun i hi y => ?_, ?_⟩, h2, h3⟩
        · have := h1 i hi
          rw [if_neg (fun z => ne hi y (by injection z with z; exact z.symm)), Int.add_zero] at this; exact this
        · have := h1 j j1
          rw [if_pos rfl] at this; exact this
      · rintro ⟨⟨h1, h1'⟩, h2, h3⟩
        refine ⟨fun i hi => ?_, h2, h3⟩
        by_cases y : i = j
        · rw [y, if_pos rfl]; exact h1'
        · rw [if_neg (fun z => ne hi y (by injection z with z; exact z.symm)), Int.add_zero]; exact h1 i hi y
    have split : ∀ (t : sgS) (x : Nat → Int), ks p f o t n x ↔ (∀ i, i < n → i ≠ j → kr p t (o i) (kS f o i n x) x) ∧ kr p t (o j) (kS f o j n x) x := fun t x => by
      unfold ks
      constructor
      · intro h; exact ⟨fun i hi _ => h i hi, h j j1⟩
      · rintro ⟨h1, h2⟩ i hi
        by_cases y : i = j
        · rw [y]; exact h2
        · exact h1 i hi y
    cases pn : bt s.2.2.1 (o n)
    · by_cases t : tI s (o n) = 0
      · cases pj : bt s.2.2.1 (o j)
        · have es : sg_s lf par (o n) s = (s.1, s.2.1, s.2.2.1 ||| jk_bit (o j), s.2.2.2.1, s.2.2.2.2.1, s.2.2.2.2.2) := by
            unfold sg_s; rw [if_neg (by rw [pn]; simp), if_pos (t0.mpr t), c]; exact if_neg (by rw [pj]; simp)
          have bj : ∀ i, i < sz → bt (s.2.2.1 ||| jk_bit (o j)) (o i) = (bt s.2.2.1 (o i) || decide (o i = o j)) := fun i hi => by
            rw [bt_or, bt_bit (by omega) (by have := o12 i hi; omega)]
          rw [es]
          refine ⟨fun i hi => I i (by omega), 0, z0, by omega, fun x => ?_⟩
          rw [Int.pow_zero, Int.one_mul]
          refine js_lin (b := tI s (o j) * x (o j) + rI s (o j) * kS f o j n x) (by omega) Ij.2.2.2.2 (fun a ha => ?_)
          rw [rows x a, split]
          have r1 : ∀ i, i < n → i ≠ j → (kr p (s.1, s.2.1, s.2.2.1 ||| jk_bit (o j), s.2.2.2.1, s.2.2.2.2.1, s.2.2.2.2.2) (o i) (kS f o i n x) x ↔ kr p s (o i) (kS f o i n x) x) := fun i hi y => by
            refine kr_congr ?_ rfl (fun _ => Iff.rfl)
            show bt (s.2.2.1 ||| jk_bit (o j)) (o i) = _
            rw [bj i (by omega), decide_eq_false (ne hi y), Bool.or_false]
          have r2 : kr p (s.1, s.2.1, s.2.2.1 ||| jk_bit (o j), s.2.2.2.1, s.2.2.2.2.1, s.2.2.2.2.2) (o j) (kS f o j n x) x ↔ (p : Int) ∣ x (o j) := by
            have b1 : bt (s.2.2.1 ||| jk_bit (o j)) (o j) = true := by rw [bj j (by omega), decide_eq_true rfl, Bool.or_true]
            unfold kr
            constructor
            · intro h; exact h.1 b1
            · intro h
              exact ⟨fun _ => h, fun y => by
                have y : bt (s.2.2.1 ||| jk_bit (o j)) (o j) = false := y
                rw [b1] at y; cases y⟩
          have r3 : kr p s (o j) (kS f o j n x + a) x ↔ (p : Int) ∣ rI s (o j) * a + (tI s (o j) * x (o j) + rI s (o j) * kS f o j n x) := by
            unfold kr
            have e : tI s (o j) * x (o j) + rI s (o j) * (kS f o j n x + a) = rI s (o j) * a + (tI s (o j) * x (o j) + rI s (o j) * kS f o j n x) := by rw [Int.mul_add]; omega
            rw [e]
            constructor
            · intro h; exact h.2 pj
            · intro h; exact ⟨(fun y => (by rw [pj] at y; cases y)), fun _ => h⟩
          rw [r2, r3, t]
          have r4 : (p : Int) ∣ 0 * (a : Int) + rI s (o n) * x (o j) ↔ (p : Int) ∣ x (o j) := by
            rw [Int.zero_mul, Int.zero_add]
            exact un_dvd In.2.2.2.2
          rw [r4]
          constructor
          · rintro ⟨⟨h1, h2⟩, h3, h4⟩
            exact ⟨h2, fun i hi y => (r1 i hi y).mpr (h1 i hi y), h4 pn⟩
          · rintro ⟨h2, h1, h4⟩
            exact ⟨⟨fun i hi y => (r1 i hi y).mp (h1 i hi y), h2⟩, (fun y => (by rw [pn] at y; cases y)), fun _ => h4⟩
        · have es : sg_s lf par (o n) s = (s.1, s.2.1, s.2.2.1, s.2.2.2.1, s.2.2.2.2.1, s.2.2.2.2.2 + 1) := by
            unfold sg_s; rw [if_neg (by rw [pn]; simp), if_pos (t0.mpr t), c]; exact if_pos pj
          rw [es]
          refine ⟨fun i hi => I i (by omega), 1, rfl, by omega, fun x => ?_⟩
          rw [Int.pow_succ, Int.pow_zero, Int.one_mul]
          refine js_all (fun a ha => ?_)
          rw [rows x a, split]
          have r3 : kr p s (o j) (kS f o j n x + a) x ↔ kr p s (o j) (kS f o j n x) x := kr_congr rfl rfl (fun y => by rw [pj] at y; cases y)
          rw [r3, t]
          constructor
          · rintro ⟨h1, -⟩; exact h1
          · intro h1
            exact ⟨h1, (fun y => (by rw [pn] at y; cases y)), fun _ => by
              rw [Int.zero_mul, Int.zero_add]
              exact (un_dvd In.2.2.2.2).mpr (h1.2.1 pj)⟩
      · have es : sg_s lf par (o n) s = (vp_updL s.1 (o j) (lf (s.1 (o j) * s.1 (o n) - s.2.1 (o j) * s.2.1 (o n))), vp_updL s.2.1 (o j) (lf (s.2.1 (o j) * s.1 (o n))), s.2.2.1, s.2.2.2.1 + (if sgIs s (o n) = true then 1 else 0), s.2.2.2.2.1 + (if sgIs s (o n) = true then 0 else 1), s.2.2.2.2.2) := by
          unfold sg_s sg_n; rw [if_neg (by rw [pn]; simp), if_neg (fun y => t (t0.mp y)), c]
        have ut : un p (tI s (o n)) := un_of hp (fun y => by
          have := Int.le_of_dvd (by have := In.1; omega) y
          have := In.2.1; omega)
        obtain ⟨m1, m2⟩ := fm_mul FM hp Ij In
        have f1 := FM (s.1 (o j) * s.1 (o n) - s.2.1 (o j) * s.2.1 (o n))
        have f2 := FM (s.2.1 (o j) * s.1 (o n))
        rw [es]
        generalize hS : ((vp_updL s.1 (o j) (lf (s.1 (o j) * s.1 (o n) - s.2.1 (o j) * s.2.1 (o n))), vp_updL s.2.1 (o j) (lf (s.2.1 (o j) * s.1 (o n))), s.2.2.1, s.2.2.2.1 + (if sgIs s (o n) = true then 1 else 0), s.2.2.2.2.1 + (if sgIs s (o n) = true then 0 else 1), s.2.2.2.2.2) : sgS) = s'
        have g1 : tI s' (o j) = (lf (s.1 (o j) * s.1 (o n) - s.2.1 (o j) * s.2.1 (o n))).toInt := by
          rw [← hS]; unfold tI; dsimp only; rw [updL_at]
        have g2 : rI s' (o j) = (lf (s.2.1 (o j) * s.1 (o n))).toInt := by
          rw [← hS]; unfold rI; dsimp only; rw [updL_at]
        have g3 : ∀ i, i < n → i ≠ j → tI s' (o i) = tI s (o i) ∧ rI s' (o i) = rI s (o i) := fun i hi y => by
          rw [← hS]; unfold tI rI; dsimp only; rw [updL_ne _ _ (ne hi y), updL_ne _ _ (ne hi y)]; exact ⟨rfl, rfl⟩
        have g4 : s'.2.2.1 = s.2.2.1 := by rw [← hS]
        have g5 : s'.2.2.2.2.2 = s.2.2.2.2.2 := by rw [← hS]
        rw [← g1] at m1 f1
        rw [← g2] at m2 f2
        refine ⟨fun i hi => ?_, 0, by rw [g5]; exact z0, by omega, fun x => ?_⟩
        · by_cases y : i = j
          · rw [y]
            exact ⟨f1.1, f1.2.1, f2.1, f2.2.1, un_congr m2 (un_mul Ij.2.2.2.2 ut)⟩
          · obtain ⟨e1, e2⟩ := g3 i hi y
            unfold kI
            rw [e1, e2]
            exact I i (by omega)
        · rw [Int.pow_zero, Int.one_mul]
          refine js_lin (b := rI s (o n) * x (o j)) (by omega) ut (fun a ha => ?_)
          rw [rows x a, split]
          have r1 : ∀ i, i < n → i ≠ j → (kr p s' (o i) (kS f o i n x) x ↔ kr p s (o i) (kS f o i n x) x) := fun i hi y => by
            obtain ⟨e1, e2⟩ := g3 i hi y
            refine kr_congr (by rw [g4]) rfl (fun _ => ?_)
            rw [e1, e2]
          have r2 : (p : Int) ∣ tI s (o n) * a + rI s (o n) * x (o j) → (kr p s (o j) (kS f o j n x + a) x ↔ kr p s' (o j) (kS f o j n x) x) := fun hd => by
            refine kr_congr (by rw [g4]) rfl (fun _ => ?_)
            rw [← un_dvd ut]
            apply dv_congr
            obtain ⟨k1, h1⟩ := m1
            obtain ⟨k2, h2⟩ := m2
            obtain ⟨k3, h3⟩ := hd
            generalize tI s' (o j) = T' at *
            generalize rI s' (o j) = R' at *
            generalize tI s (o j) = Tj at *
            generalize rI s (o j) = Rj at *
            generalize tI s (o n) = Tn at *
            generalize rI s (o n) = Rn at *
            generalize x (o j) = X at *
            generalize kS f o j n x = S at *
            refine ⟨Rj * k3 - k1 * X - k2 * S, ?_⟩
            have e1 : T' = p * k1 + (Tj * Tn - Rj * Rn) := by omega
            have e2 : R' = p * k2 + Rj * Tn := by omega
            rw [e1, e2]
            have e3 : Tn * (Tj * X + Rj * (S + a)) = Tj * Tn * X + Rj * Tn * S + Rj * (Tn * a) := by
              rw [Int.mul_add, Int.mul_add, Int.mul_add]
              have a1 : Tn * (Tj * X) = Tj * Tn * X := by rw [← Int.mul_assoc, Int.mul_comm Tn]
              have a2 : Tn * (Rj * S) = Rj * Tn * S := by rw [← Int.mul_assoc, Int.mul_comm Tn]
              have a3 : Tn * (Rj * a) = Rj * (Tn * a) := Int.mul_left_comm _ _ _
              omega
            have e4 : Tn * (a : Int) = p * k3 - Rn * X := by omega
            rw [e3, e4, Int.mul_sub, Int.add_mul, Int.sub_mul, Int.add_mul, Int.mul_sub, Int.mul_sub]
            have b1 : Rj * ((p : Int) * k3) = p * (Rj * k3) := Int.mul_left_comm _ _ _
            have b2 : Rj * (Rn * X) = Rj * Rn * X := (Int.mul_assoc _ _ _).symm
            have b3 : (p : Int) * k1 * X = p * (k1 * X) := Int.mul_assoc _ _ _
            have b4 : (p : Int) * k2 * S = p * (k2 * S) := Int.mul_assoc _ _ _
            omega
          constructor
          · rintro ⟨⟨h1, h2⟩, h3, h4⟩
            have h4 := h4 pn
            exact ⟨h4, fun i hi y => (r1 i hi y).mpr (h1 i hi y), (r2 h4).mp h2⟩
          · rintro ⟨h4, h1, h2⟩
            exact ⟨⟨fun i hi y => (r1 i hi y).mp (h1 i hi y), (r2 h4).mpr h2⟩, (fun y => (by rw [pn] at y; cases y)), fun _ => h4⟩
    · have es : sg_s lf par (o n) s = (s.1, s.2.1, s.2.2.1, s.2.2.2.1 + 1, s.2.2.2.2.1 + 1, s.2.2.2.2.2) := by unfold sg_s; rw [if_pos pn]
      rw [es]
      refine ⟨fun i hi => I i (by omega), 0, z0, by omega, fun x => ?_⟩
      rw [Int.pow_zero, Int.one_mul]
      refine js_lin (b := 0) (by omega) (un_1 p) (fun a ha => ?_)
      rw [rows x a, split, Int.one_mul, Int.add_zero]
      have r2 : (p : Int) ∣ a → (kr p s (o j) (kS f o j n x + a) x ↔ kr p s (o j) (kS f o j n x) x) := fun hd => by
        refine kr_congr rfl rfl (fun _ => ?_)
        apply dv_congr
        obtain ⟨k, hk⟩ := hd
        refine ⟨rI s (o j) * k, ?_⟩
        rw [Int.mul_add, hk]
        have : rI s (o j) * ((p : Int) * k) = p * (rI s (o j) * k) := Int.mul_left_comm _ _ _
        omega
      constructor
      · rintro ⟨⟨h1, h2⟩, h3, h4⟩
        have h3 := h3 pn
        exact ⟨h3, h1, (r2 h3).mp h2⟩
      · rintro ⟨h3, h1, h2⟩
        exact ⟨⟨h1, (r2 h3).mpr h2⟩, fun _ => h3, (fun y => (by rw [pn] at y; cases y))⟩
/-- the number of solutions -/
theorem ks_run (O : iv_O (ec f) o par sz) (irr : ∀ i, i < sz → ec f (o i) (o i) = 0) (o12 : ∀ i, i < sz → o i < 12) (hp : pr6 p) (FM : kFM p lf) : ∀ (n : Nat) (s : sgS), n ≤ sz → (∀ i, i < n → kI p s (o i)) → ∃ k : Nat, k ≤ n ∧ (sg_r lf o par n s).2.2.2.2.2 = s.2.2.2.2.2 + Int32.ofNat k ∧ ∀ x, ct p (pl o n) (fun x => ind (ks p f o s n x)) x = (p : Int) ^ k
  | 0, s, _, _ => ⟨0, Nat.le_refl 0, (Int32.add_zero _).symm, fun x => by
      show ind (ks p f o s 0 x) = (p : Int) ^ 0
      have q : ks p f o s 0 x := fun i hi => absurd hi (Nat.not_lt_zero i)
      rw [ind_t q, Int.pow_zero]⟩
  | n + 1, s, hn, I => by
    obtain ⟨i1, k1, e1, l1, c1⟩ := ks_step O irr o12 hp FM (n := n) (by omega) I
    obtain ⟨k2, l2, e2, c2⟩ := ks_run O irr o12 hp FM n (sg_s lf par (o n) s) (by omega) i1
    refine ⟨k1 + k2, by omega, ?_, fun x => ?_⟩
    · show (sg_r lf o par n (sg_s lf par (o n) s)).2.2.2.2.2 = _
      rw [e2, e1, Int32.ofNat_add, Int32.add_assoc]
    · rw [pl_succ, ct_snoc, ct_congr (H := fun x => (p : Int) ^ k1 * ind (ks p f o (sg_s lf par (o n) s) n x)) c1, ct_mul, c2, Int.pow_add]
end
