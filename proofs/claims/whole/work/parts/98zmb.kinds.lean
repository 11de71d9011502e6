/-! INERTIA: what each fraction comes to in a large scale, and the count -/
/-- no more than the square by a constant -/
def mx_U (f : Rat → Rat) : Prop := ∃ K N0 : Rat, 0 ≤ K ∧ ∀ N : Rat, N0 ≤ N → f N ≤ K * (N * N)
theorem rt_sq {N : Rat} (h : 1 ≤ N) : N ≤ N * N := by
  have := Rat.mul_le_mul_of_nonneg_left h (show (0 : Rat) ≤ N by grind)
  grind
theorem mx_A_U {f : Rat → Rat} {x : Rat} (h : mx_A f x) : mx_U f := by
  obtain ⟨K, N0, hK, h⟩ := h
  obtain ⟨m, m1, m2⟩ := mx_max N0 1
  rcases Rat.le_total (a := x) (b := 0) with z | z
  · refine ⟨0, m, Rat.le_refl, fun N hN => ?_⟩
    have h2 := (h N (by grind)).2
    have h3 : N * x ≤ N * 0 := Rat.mul_le_mul_of_nonneg_left z (by grind)
    grind
  · refine ⟨x, m, z, fun N hN => ?_⟩
    have h2 := (h N (by grind)).2
    have h3 : x * N ≤ x * (N * N) := Rat.mul_le_mul_of_nonneg_left (rt_sq (by grind)) z
    grind
theorem mx_U_A {f g : Rat → Rat} {y : Rat} (hf : mx_U f) (hg : mx_A g y) (hy : y ≠ 0) : mx_U (fun N => f N - N * N * (g N)⁻¹) := by
  obtain ⟨K1, N1, p1, h1⟩ := hf
  obtain ⟨K2, N2, p2, h2⟩ := mx_A_inv hy hg
  obtain ⟨m', m1, m2⟩ := mx_max N1 N2
  obtain ⟨m, m3, m4⟩ := mx_max m' 1
  obtain ⟨c, c1, c2⟩ := mx_max (-(y⁻¹)) 0
  refine ⟨K1 + c, m, by grind, fun N hN => ?_⟩
  have a1 := h1 N (by grind)
  obtain ⟨-, -, b1, -⟩ := h2 N (by grind)
  have hN1 : 1 ≤ N := by grind
  have e1 : N * (-(y⁻¹)) ≤ N * c := Rat.mul_le_mul_of_nonneg_left c1 (by grind)
  have e2 : c * N ≤ c * (N * N) := Rat.mul_le_mul_of_nonneg_left (rt_sq hN1) c2
  grind
theorem mx_U_0 {f g : Rat → Rat} (hf : mx_U f) (hg : mx_A g 0) : mx_U (fun N => f N - N * N * (g N)⁻¹) := by
  obtain ⟨K1, N1, p1, h1⟩ := hf
  obtain ⟨K2, N2, p2, h2⟩ := hg
  obtain ⟨m', m1, m2⟩ := mx_max N1 N2
  obtain ⟨m, m3, m4⟩ := mx_max m' 1
  refine ⟨K1 + 1, m, by grind, fun N hN => ?_⟩
  have a1 := h1 N (by grind)
  obtain ⟨-, b1⟩ := h2 N (by grind)
  have b2 := mx_inv_le_neg (a := g N) (b := -1) (by grind) (by grind)
  have e0 : (-1 : Rat)⁻¹ = -1 := by grind
  have hN1 : 1 ≤ N := by grind
  have e1 : N * N * (-1) ≤ N * N * (g N)⁻¹ := Rat.mul_le_mul_of_nonneg_left (by grind) (Rat.mul_nonneg (by grind) (by grind))
  grind
theorem mx_U_C {f g : Rat → Rat} (hf : mx_U f) (hg : mx_C g) : mx_U (fun N => f N - N * N * (g N)⁻¹) := by
  obtain ⟨K1, N1, p1, h1⟩ := hf
  obtain ⟨K2, N2, p2, h2⟩ := mx_C_inv hg
  obtain ⟨m, m1, m2⟩ := mx_max N1 N2
  refine ⟨K1, m, p1, fun N hN => ?_⟩
  have a1 := h1 N (by grind)
  obtain ⟨-, b1, -⟩ := h2 N (by grind)
  grind
/-- squares of the scale -/
def pq (N : Rat) : Nat → Rat
  | 0 => 1
  | d + 1 => pq N d * (N * N)
theorem pq_nn (N : Rat) : ∀ d, 0 ≤ pq N d
  | 0 => by show (0 : Rat) ≤ 1; decide
  | d + 1 => Rat.mul_nonneg (pq_nn N d) (by
      rcases Rat.le_total (a := N) (b := 0) with z | z
      · have := Rat.mul_nonneg (show 0 ≤ -N by grind) (show 0 ≤ -N by grind)
        grind
      · exact Rat.mul_nonneg z z)
theorem pq_add (N : Rat) (a : Nat) : ∀ b, pq N (a + b) = pq N a * pq N b
  | 0 => by show pq N a = pq N a * 1; grind
  | b + 1 => by
    show pq N (a + b) * (N * N) = pq N a * (pq N b * (N * N))
    rw [pq_add N a b]; grind
/-- the square of f grows just as pq N d -/
def mx_B (f : Int → Rat) (d : Nat) : Prop := ∃ K N0 : Rat, 0 < K ∧ ∀ N : Int, N0 ≤ (N : Rat) → pq N d ≤ K * (f N * f N) ∧ f N * f N ≤ K * pq N d
theorem rt_sqnn (x : Rat) : 0 ≤ x * x := by
  rcases Rat.le_total (a := x) (b := 0) with z | z
  · have := Rat.mul_nonneg (show 0 ≤ -x by grind) (show 0 ≤ -x by grind)
    grind
  · exact Rat.mul_nonneg z z
theorem rt_mm {a b c d : Rat} (h1 : a ≤ b) (h2 : c ≤ d) (ha : 0 ≤ c) (hb : 0 ≤ b) : a * c ≤ b * d := by
  have e1 := Rat.mul_le_mul_of_nonneg_right h1 ha
  have e2 := Rat.mul_le_mul_of_nonneg_left h2 hb
  grind
theorem mx_B_mul {f g : Int → Rat} {a b : Nat} (hf : mx_B f a) (hg : mx_B g b) : mx_B (fun N => f N * g N) (a + b) := by
  obtain ⟨K1, N1, p1, h1⟩ := hf
  obtain ⟨K2, N2, p2, h2⟩ := hg
  obtain ⟨m, m1, m2⟩ := mx_max N1 N2
  refine ⟨K1 * K2, m, Rat.mul_pos p1 p2, fun N hN => ?_⟩
  obtain ⟨a1, a2⟩ := h1 N (by grind)
  obtain ⟨b1, b2⟩ := h2 N (by grind)
  have n1 := pq_nn N a
  have n2 := pq_nn N b
  have n3 := rt_sqnn (f N)
  have n4 := rt_sqnn (g N)
  have e1 := rt_mm a1 b1 n2 (Rat.mul_nonneg (by grind) n3)
  have e2 := rt_mm a2 b2 n4 (Rat.mul_nonneg (by grind) n1)
  rw [pq_add]
  constructor
  · have : K1 * (f N * f N) * (K2 * (g N * g N)) = K1 * K2 * (f N * g N * (f N * g N)) := by grind
    grind
  · have : K1 * pq N a * (K2 * pq N b) = K1 * K2 * (pq N a * pq N b) := by grind
    grind
theorem rt_ne {x : Rat} (h : x ≠ 0) : x < 0 ∨ 0 < x := by
  rcases Rat.le_total (a := x) (b := 0) with z | z
  · exact Or.inl (by grind)
  · exact Or.inr (by grind)
theorem mx_B_1 : mx_B (fun _ => 1) 0 := ⟨1, 0, by decide, fun N _ => by
  show (1 : Rat) ≤ 1 * (1 * 1) ∧ 1 * 1 ≤ 1 * (1 : Rat)
  grind⟩
theorem mx_lin {M c C g : Rat} (hc : 0 < c) (hM : 0 ≤ M) (h1 : M * c ≤ g) (h2 : g ≤ M * C) : M * M ≤ (c⁻¹ * c⁻¹ + C * C) * (g * g) + 0 ∧ g * g ≤ (c⁻¹ * c⁻¹ + C * C) * (M * M) := by
  have n0 : 0 ≤ M * c := Rat.mul_nonneg hM (by grind)
  have n1 : 0 ≤ g := by grind
  have e1 := rt_mm h1 h1 n0 n1
  have e2 := rt_mm h2 h2 n1 (by grind : 0 ≤ M * C)
  have n2 := rt_sqnn c⁻¹
  have n3 := rt_sqnn C
  have n4 := rt_sqnn g
  have n5 := rt_sqnn M
  have e3 := Rat.mul_le_mul_of_nonneg_left e1 n2
  have e4 : c⁻¹ * c⁻¹ * (M * c * (M * c)) = M * M := by grind
  have e5 := Rat.mul_nonneg n3 n4
  have e6 := Rat.mul_nonneg n2 n5
  constructor
  · grind
  · grind
/-- above 0 or not, for good -/
def mx_sg (f : Rat → Rat) (b : Bool) : Prop := ∃ N0 : Rat, ∀ N : Rat, N0 ≤ N → (0 < f N ↔ b = true)
theorem mx_big (f : Rat → Rat) {d : Nat} {g : Rat → Rat} {c C N0 : Rat} {M : Rat → Rat} (hc : 0 < c) (hM : ∀ N, N0 ≤ N → 0 ≤ M N ∧ M N * M N = pq N d ∧ g N * g N = f N * f N ∧ M N * c ≤ g N ∧ g N ≤ M N * C) : mx_B (fun N => f (N : Rat)) d := by
  have n2 : 0 < c⁻¹ * c⁻¹ := Rat.mul_pos (Rat.inv_pos.mpr hc) (Rat.inv_pos.mpr hc)
  have n3 := rt_sqnn C
  refine ⟨c⁻¹ * c⁻¹ + C * C, N0, by grind, fun N hN => ?_⟩
  obtain ⟨h0, h1, h2, h3, h4⟩ := hM N hN
  obtain ⟨r1, r2⟩ := mx_lin hc h0 h3 h4
  show _ ≤ _ * (f N * f N) ∧ f N * f N ≤ _
  rw [← h2, ← h1]
  exact ⟨by grind, r2⟩
theorem mx_A_B {f : Rat → Rat} {x : Rat} (h : mx_A f x) (hx : x ≠ 0) : mx_B (fun N => f (N : Rat)) 1 ∧ mx_sg f (decide (0 < x)) := by
  have h' := h
  obtain ⟨K, N0, hK, h⟩ := h
  refine ⟨?_, ?_⟩
  · rcases rt_ne hx with z | z
    · -- below 0
      obtain ⟨m', m1, m2⟩ := mx_max N0 1
      obtain ⟨m, m3, m4⟩ := mx_max m' (K * (-x)⁻¹)
      refine mx_big f (N0 := m) (g := fun N => -(f N)) (M := fun N => N) (c := -x) (C := -x + -x) (by grind) (fun N hN => ⟨by grind, ?_, by grind, ?_, ?_⟩)
      · show N * N = 1 * (N * N); grind
      · have := (h N (by grind)).2
        show N * -x ≤ -(f N)
        grind
      · have := (h N (by grind)).1
        have e : K * (-x)⁻¹ * (-x) ≤ N * (-x) := Rat.mul_le_mul_of_nonneg_right (by grind) (by grind)
        have e2 : K * (-x)⁻¹ * (-x) = K := by grind
        show -(f N) ≤ N * (-x + -x)
        grind
    · obtain ⟨m', m1, m2⟩ := mx_max N0 1
      obtain ⟨m, m3, m4⟩ := mx_max m' (2 * K * x⁻¹)
      have c0 : (0 : Rat) < 2⁻¹ := Rat.inv_pos.mpr (by decide)
      refine mx_big f (N0 := m) (g := f) (M := fun N => N) (c := x * 2⁻¹) (C := x) (Rat.mul_pos z c0) (fun N hN => ⟨by grind, ?_, rfl, ?_, ?_⟩)
      · show N * N = 1 * (N * N); grind
      · have := (h N (by grind)).1
        have e : 2 * K * x⁻¹ * x ≤ N * x := Rat.mul_le_mul_of_nonneg_right (by grind) (by grind)
        have e2 : 2 * K * x⁻¹ * x = 2 * K := by grind
        show N * (x * 2⁻¹) ≤ f N
        grind
      · have := (h N (by grind)).2
        show f N ≤ N * x
        grind
  · obtain ⟨K2, N2, -, h2⟩ := mx_A_inv hx h'
    exact ⟨N2, fun N hN => by rw [(h2 N hN).2.1, decide_eq_true_iff]⟩
theorem mx_0_B {f : Rat → Rat} (h : mx_A f 0) : mx_B (fun N => f (N : Rat)) 0 ∧ mx_sg f false := by
  obtain ⟨K, N0, hK, h⟩ := h
  refine ⟨mx_big f (N0 := N0) (g := fun N => -(f N)) (M := fun _ => 1) (c := 1) (C := K) (by decide) (fun N hN => ⟨by decide, (by show (1 : Rat) * 1 = 1; grind), by grind, ?_, ?_⟩), ⟨N0, fun N hN => ?_⟩⟩
  · have := (h N hN).2
    show 1 * 1 ≤ -(f N)
    grind
  · have := (h N hN).1
    show -(f N) ≤ 1 * K
    grind
  · have := (h N hN).2
    constructor
    · intro z; grind
    · intro z; cases z
theorem mx_C_B {f : Rat → Rat} (h : mx_C f) (hu : mx_U f) : mx_B (fun N => f (N : Rat)) 2 ∧ mx_sg f true := by
  obtain ⟨K2, N2, -, h2⟩ := mx_C_inv h
  obtain ⟨K, N0, hK, h⟩ := h
  obtain ⟨C, N1, hC, hu⟩ := hu
  obtain ⟨m, m1, m2⟩ := mx_max N0 N1
  refine ⟨mx_big f (N0 := m) (g := f) (M := fun N => N * N) (c := K⁻¹) (C := C) (Rat.inv_pos.mpr hK) (fun N hN => ⟨rt_sqnn N, ?_, rfl, ?_, ?_⟩), ⟨N2, fun N hN => ⟨fun _ => rfl, fun _ => (h2 N hN).1⟩⟩⟩
  · show N * N * (N * N) = 1 * (N * N) * (N * N); grind
  · have a1 := h N (by grind)
    have p := Rat.inv_pos.mpr hK
    have a2 := Rat.mul_le_mul_of_nonneg_right a1 (show 0 ≤ K⁻¹ by grind)
    have e : K * f N * K⁻¹ = f N := by grind
    show N * N * K⁻¹ ≤ f N
    grind
  · have := hu N (by grind)
    show f N ≤ N * N * C
    grind
/-! the run: tops, rests, the paired, how many above, below, none -/
abbrev ivS := (Nat → Int) × (Nat → Int) × (Nat → Bool) × Nat × Nat × Nat
def iv_s (par : Nat → Option Nat) (p : Nat) (s : ivS) : ivS :=
  if s.2.2.1 p = true then (s.1, s.2.1, s.2.2.1, s.2.2.2.1 + 1, s.2.2.2.2.1 + 1, s.2.2.2.2.2)
  else if s.1 p = 0 then
    match par p with
    | none => (s.1, s.2.1, s.2.2.1, s.2.2.2.1, s.2.2.2.2.1, s.2.2.2.2.2 + 1)
    | some q => if s.2.2.1 q = true then (s.1, s.2.1, s.2.2.1, s.2.2.2.1, s.2.2.2.2.1, s.2.2.2.2.2 + 1) else (s.1, s.2.1, (fun x => if x = q then true else s.2.2.1 x), s.2.2.2.1, s.2.2.2.2.1, s.2.2.2.2.2)
  else ((iv_n par (s.1, s.2.1) p).1, (iv_n par (s.1, s.2.1) p).2, s.2.2.1, s.2.2.2.1 + (if 0 < s.1 p * s.2.1 p then 1 else 0), s.2.2.2.2.1 + (if 0 < s.1 p * s.2.1 p then 0 else 1), s.2.2.2.2.2)
def iv_r (o : Nat → Nat) (par : Nat → Option Nat) : Nat → ivS → ivS
  | 0, s => s
  | n + 1, s => iv_r o par n (iv_s par (o n) s)
/-- a place's kind -/
def iv_ty (s : ivS) (F : Rat → Nat → Rat) (x : Nat) : Prop :=
  s.2.1 x ≠ 0 ∧ mx_U (fun N => F N x) ∧ (s.2.2.1 x = true → mx_C (fun N => F N x)) ∧ (s.2.2.1 x = false → mx_A (fun N => F N x) ((s.1 x : Rat) / (s.2.1 x : Rat)))
def iv_pos (s : ivS) (x : Nat) : Bool := s.2.2.1 x || decide (0 < s.1 x * s.2.1 x)
def iv_dg (s : ivS) (x : Nat) : Nat := if s.2.2.1 x = true then 2 else if s.1 x = 0 then 0 else 1
theorem rt_div_pos {a b : Int} (hb : b ≠ 0) : (0 < (a : Rat) / (b : Rat)) ↔ 0 < a * b := by
  have h : (b : Rat) ≠ 0 := fun z => hb (by exact_mod_cast z)
  have e : (a : Rat) / b = (a : Rat) * b * ((b : Rat)⁻¹ * (b : Rat)⁻¹) := by grind
  have hp : 0 < (b : Rat)⁻¹ * (b : Rat)⁻¹ := by
    have h2 : (b : Rat)⁻¹ ≠ 0 := fun z => h (by grind)
    rcases rt_ne h2 with y | y
    · have := Rat.mul_pos (show 0 < -(b : Rat)⁻¹ by grind) (show 0 < -(b : Rat)⁻¹ by grind)
      grind
    · exact Rat.mul_pos y y
  have e3 : ((a * b : Int) : Rat) = (a : Rat) * b := Rat.intCast_mul a b
  rw [e, ← Rat.intCast_pos, e3]
  constructor
  · intro y
    rcases Rat.le_total (a := (a : Rat) * b) (b := 0) with z | z
    · have := Rat.mul_le_mul_of_nonneg_right z (show 0 ≤ (b : Rat)⁻¹ * (b : Rat)⁻¹ by grind)
      grind
    · rcases Rat.le_iff_lt_or_eq.mp z with w | w
      · exact w
      · rw [← w] at y; grind
  · intro y; exact Rat.mul_pos y hp
theorem rt_div_0 {a b : Int} (hb : b ≠ 0) : ((a : Rat) / (b : Rat) = 0) ↔ a = 0 := by
  have h : (b : Rat) ≠ 0 := fun z => hb (by exact_mod_cast z)
  constructor
  · intro z
    have : (a : Rat) = 0 := by grind
    exact_mod_cast this
  · intro z; rw [z]
    show (0 : Rat) / b = 0
    grind
theorem iv_ty_end {s : ivS} {F : Rat → Nat → Rat} {x : Nat} (H : iv_ty s F x) : mx_B (fun N => F (N : Rat) x) (iv_dg s x) ∧ mx_sg (fun N => F N x) (iv_pos s x) := by
  obtain ⟨a1, a2, a3, a4⟩ := H
  unfold iv_dg iv_pos
  cases hp : s.2.2.1 x
  · have A := a4 hp
    rw [if_neg (by simp), Bool.false_or]
    by_cases z : s.1 x = 0
    · rw [if_pos z]
      have e : ((s.1 x : Rat) / (s.2.1 x : Rat)) = 0 := (rt_div_0 a1).mpr z
      rw [e] at A
      rw [z, Int.zero_mul]
      exact mx_0_B A
    · rw [if_neg z]
      have e := mx_A_B A (fun y => z ((rt_div_0 a1).mp y))
      refine ⟨e.1, ?_⟩
      have := e.2
      rw [decide_eq_decide.mpr (rt_div_pos (a := s.1 x) a1)] at this
      exact this
  · rw [if_pos rfl]
    exact mx_C_B (a3 hp) a2
