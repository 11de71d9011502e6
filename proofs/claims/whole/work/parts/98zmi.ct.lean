/-! KERNEL: numbers of solutions by a prime -/
/-- one place of a row of numbers set -/
def xu (x : Nat → Int) (v : Nat) (a : Int) : Nat → Int := fun k => if k = v then a else x k
theorem xu_at (x : Nat → Int) (v : Nat) (a : Int) : xu x v a v = a := if_pos rfl
theorem xu_ne (x : Nat → Int) {v k : Nat} (a : Int) (h : k ≠ v) : xu x v a k = x k := if_neg h
theorem xu_comm (x : Nat → Int) {u v : Nat} (a b : Int) (h : u ≠ v) : xu (xu x u a) v b = xu (xu x v b) u a := by
  funext k
  unfold xu
  by_cases c : k = v
  · subst c; rw [if_pos rfl, if_neg (fun z => h z.symm), if_pos rfl]
  · rw [if_neg c, if_neg c]
/-- a sum over all numbers below p at the places of a list -/
def ct (p : Nat) : List Nat → ((Nat → Int) → Int) → (Nat → Int) → Int
  | [], G, x => G x
  | v :: vs, G, x => js (fun a => ct p vs G (xu x v (a : Int))) p
section
variable {p : Nat}
theorem ct_congr {G H : (Nat → Int) → Int} (h : ∀ x, G x = H x) : ∀ (vs : List Nat) (x : Nat → Int), ct p vs G x = ct p vs H x
  | [], x => h x
  | v :: vs, x => js_congr (fun a _ => ct_congr h vs _)
theorem ct_snoc (v : Nat) (G : (Nat → Int) → Int) : ∀ (vs : List Nat) (x : Nat → Int), ct p (vs ++ [v]) G x = ct p vs (fun x => js (fun a => G (xu x v (a : Int))) p) x
  | [], x => rfl
  | u :: vs, x => js_congr (fun a _ => ct_snoc v G vs _)
theorem ct_app (G : (Nat → Int) → Int) (ws : List Nat) : ∀ (vs : List Nat) (x : Nat → Int), ct p (vs ++ ws) G x = ct p vs (fun x => ct p ws G x) x
  | [], x => rfl
  | u :: vs, x => js_congr (fun a _ => ct_app G ws vs _)
theorem js_mul (c : Int) (g : Nat → Int) : ∀ n, js (fun k => c * g k) n = c * js g n
  | 0 => (Int.mul_zero c).symm
  | n + 1 => by
    show js (fun k => c * g k) n + c * g n = c * (js g n + g n)
    rw [js_mul c g n, Int.mul_add]
theorem js_const (c : Int) : ∀ n : Nat, js (fun _ => c) n = n * c
  | 0 => (Int.zero_mul c).symm
  | n + 1 => by
    show js (fun _ => c) n + c = ((n + 1 : Nat) : Int) * c
    rw [js_const c n, Int.natCast_add, Int.add_mul]
    show _ + c = _ + ((1 : Int)) * c
    rw [Int.one_mul]
theorem js_swp (F : Nat → Nat → Int) (m : Nat) : ∀ n, js (fun a => js (fun b => F a b) m) n = js (fun b => js (fun a => F a b) n) m
  | 0 => (js_0 m).symm
  | n + 1 => by
    show js (fun a => js (fun b => F a b) m) n + js (fun b => F n b) m = js (fun b => js (fun a => F a b) n + F n b) m
    rw [js_swp F m n, js_add]
theorem ct_mul (c : Int) (G : (Nat → Int) → Int) : ∀ (vs : List Nat) (x : Nat → Int), ct p vs (fun x => c * G x) x = c * ct p vs G x
  | [], x => rfl
  | v :: vs, x => by
    show js (fun a => ct p vs (fun x => c * G x) (xu x v (a : Int))) p = c * js (fun a => ct p vs G (xu x v (a : Int))) p
    rw [← js_mul]
    exact js_congr (fun a _ => ct_mul c G vs _)
theorem ct_const (c : Int) : ∀ (vs : List Nat) (x : Nat → Int), ct p vs (fun _ => c) x = (p : Int) ^ vs.length * c
  | [], x => by show c = (p : Int) ^ 0 * c; rw [Int.pow_zero, Int.one_mul]
  | v :: vs, x => by
    show js (fun a => ct p vs (fun _ => c) (xu x v (a : Int))) p = (p : Int) ^ (vs.length + 1) * c
    rw [js_congr (h := fun _ => (p : Int) ^ vs.length * c) (fun a _ => ct_const c vs _), js_const, Int.pow_succ, Int.mul_comm ((p : Int) ^ vs.length) (p : Int), Int.mul_assoc]
theorem ct_swap {u v : Nat} (h : u ≠ v) (vs : List Nat) (G : (Nat → Int) → Int) (x : Nat → Int) : ct p (u :: v :: vs) G x = ct p (v :: u :: vs) G x := by
  show js (fun a => js (fun b => ct p vs G (xu (xu x u (a : Int)) v (b : Int))) p) p = js (fun b => js (fun a => ct p vs G (xu (xu x v (b : Int)) u (a : Int))) p) p
  rw [js_swp]
  exact js_congr (fun b _ => js_congr (fun a _ => by rw [xu_comm x (a : Int) (b : Int) h]))
theorem ct_perm {vs ws : List Nat} (h : vs.Perm ws) : vs.Nodup → ∀ (G : (Nat → Int) → Int) (x : Nat → Int), ct p vs G x = ct p ws G x := by
  induction h with
  | nil => intro _ G x; rfl
  | cons v _ ih => intro hn G x; exact js_congr (fun a _ => ih (List.nodup_cons.mp hn).2 G _)
  | swap u v l =>
    intro hn G x
    exact ct_swap (fun z => (List.nodup_cons.mp hn).1 (by rw [z]; exact List.mem_cons_self)) l G x
  | trans h1 _ ih1 ih2 => intro hn G x; exact (ih1 hn G x).trans (ih2 (h1.nodup_iff.mp hn) G x)
end
/-- 1 where a thing holds -/
noncomputable def ind (P : Prop) : Int := @ite _ P (Classical.propDecidable P) 1 0
theorem ind_t {P : Prop} (h : P) : ind P = 1 := if_pos h
theorem ind_f {P : Prop} (h : ¬ P) : ind P = 0 := if_neg h
theorem ind_congr {P Q : Prop} (h : P ↔ Q) : ind P = ind Q := by rw [propext h]
/-- what has an inverse by p -/
def un (p : Nat) (t : Int) : Prop := ∃ u : Int, (p : Int) ∣ t * u - 1
theorem un_1 (p : Nat) : un p 1 := ⟨1, ⟨0, by omega⟩⟩
theorem un_mul {p : Nat} {a b : Int} (ha : un p a) (hb : un p b) : un p (a * b) := by
  obtain ⟨u, k, h1⟩ := ha
  obtain ⟨v, l, h2⟩ := hb
  refine ⟨u * v, ⟨k * (b * v) + l, ?_⟩⟩
  have e1 : a * b * (u * v) - 1 = (a * u - 1) * (b * v) + (b * v - 1) := by
    rw [Int.sub_mul, Int.one_mul]
    have : a * b * (u * v) = a * u * (b * v) := by simp only [Int.mul_assoc, Int.mul_left_comm]
    omega
  rw [e1, h1, h2, Int.mul_add, Int.mul_assoc]
theorem un_congr {p : Nat} {a b : Int} (h : (p : Int) ∣ a - b) (hb : un p b) : un p a := by
  obtain ⟨u, k, h1⟩ := hb
  obtain ⟨m, h2⟩ := h
  refine ⟨u, ⟨m * u + k, ?_⟩⟩
  have : a * u - 1 = (a - b) * u + (b * u - 1) := by rw [Int.sub_mul]; omega
  rw [this, h1, h2, Int.mul_add, Int.mul_assoc]
theorem un_dvd {p : Nat} {t z : Int} (ht : un p t) : ((p : Int) ∣ t * z) ↔ (p : Int) ∣ z := by
  obtain ⟨u, k, h1⟩ := ht
  constructor
  · rintro ⟨m, h⟩
    refine ⟨u * m - k * z, ?_⟩
    have : z = u * (t * z) - (t * u - 1) * z := by
      rw [Int.sub_mul, Int.one_mul]
      have : u * (t * z) = t * u * z := by simp only [Int.mul_assoc, Int.mul_left_comm]
      omega
    rw [h, h1, Int.mul_assoc, Int.mul_left_comm u, ← Int.mul_sub] at this
    exact this
  · intro h; exact Int.dvd_trans h (Int.dvd_mul_left t z)
/-- six primes -/
def pr6 (p : Nat) : Prop := p = 2 ∨ p = 3 ∨ p = 5 ∨ p = 7 ∨ p = 11 ∨ p = 13
theorem pr6_pos {p : Nat} (h : pr6 p) : 2 ≤ p ∧ p ≤ 13 := by unfold pr6 at h; omega
theorem un_res {p : Nat} (h : pr6 p) {r : Nat} (h1 : r < p) (h2 : 0 < r) : ∃ u : Nat, 1 ≤ u ∧ u < p ∧ (u * r) % p = 1 := by
  have : ∀ p : Nat, p < 14 → (p = 2 ∨ p = 3 ∨ p = 5 ∨ p = 7 ∨ p = 11 ∨ p = 13) → ∀ r : Nat, r < p → 0 < r → (List.range p).any (fun u => decide (1 ≤ u) && decide ((u * r) % p = 1)) = true := by decide +kernel
  have := this p (by have := pr6_pos h; omega) h r h1 h2
  obtain ⟨u, a, b⟩ := List.any_eq_true.mp this
  rw [Bool.and_eq_true, decide_eq_true_iff, decide_eq_true_iff] at b
  exact ⟨u, b.1, List.mem_range.mp a, b.2⟩
theorem un_of {p : Nat} (h : pr6 p) {t : Int} (ht : ¬ (p : Int) ∣ t) : un p t := by
  have p2 := (pr6_pos h).1
  have r0 := Int.emod_nonneg t (show (p : Int) ≠ 0 by omega)
  have r1 := Int.emod_lt_of_pos t (show (0 : Int) < p by omega)
  have rz : t % p ≠ 0 := fun z => ht (Int.dvd_of_emod_eq_zero z)
  obtain ⟨r, hr⟩ : ∃ r : Nat, t % (p : Int) = r := ⟨(t % p).toNat, by omega⟩
  obtain ⟨u, u1, u2, u3⟩ := un_res h (r := r) (by omega) (by omega)
  refine ⟨u, ⟨t / p * u + (u * r / p : Nat), ?_⟩⟩
  have e1 := Int.mul_ediv_add_emod t p
  have e2 := Nat.div_add_mod (u * r) p
  have e3 : ((u * r : Nat) : Int) = p * ((u * r / p : Nat) : Int) + 1 := by
    rw [← Int.natCast_mul]
    have := congrArg (fun z : Nat => (z : Int)) e2
    rw [u3] at this
    omega
  have e4 : t * u = p * (t / p * u) + ((u * r : Nat) : Int) := by
    rw [show t * (u : Int) = (p * (t / p) + t % p) * u by rw [e1], Int.add_mul, hr, Int.mul_assoc, Int.natCast_mul, Int.mul_comm (r : Int)]
  rw [e4, e3, Int.mul_add]
  omega
/-- one equation has one solution -/
theorem lin_one {p : Nat} (hp : 0 < p) {t b : Int} (ht : un p t) : ∃ a0 : Nat, a0 < p ∧ ∀ a : Nat, a < p → (((p : Int) ∣ t * a + b) ↔ a = a0) := by
  obtain ⟨u, k, h1⟩ := ht
  have r0 := Int.emod_nonneg (-(b * u)) (show (p : Int) ≠ 0 by omega)
  have r1 := Int.emod_lt_of_pos (-(b * u)) (show (0 : Int) < p by omega)
  obtain ⟨a0, h0⟩ : ∃ r : Nat, (-(b * u)) % (p : Int) = r := ⟨((-(b * u)) % p).toNat, by omega⟩
  have e1 := Int.mul_ediv_add_emod (-(b * u)) p
  rw [h0] at e1
  have key : ∀ a : Nat, ((p : Int) ∣ t * a + b) ↔ (p : Int) ∣ (a : Int) - a0 := fun a => by
    rw [← un_dvd (t := t) ⟨u, k, h1⟩ (z := (a : Int) - a0)]
    have e2 : t * ((a : Int) - a0) = t * a + b - (t * a0 + b) := by rw [Int.mul_sub]; omega
    have e3 : (p : Int) ∣ t * a0 + b := by
      refine ⟨-(t * (-(b * u) / p)) - b * k, ?_⟩
      have : (a0 : Int) = -(b * u) - p * (-(b * u) / p) := by omega
      rw [this, Int.mul_sub, Int.mul_sub, Int.mul_neg, Int.mul_neg]
      have x1 : t * (b * u) = b * (t * u - 1) + b := by
        rw [Int.mul_sub, Int.mul_one]
        have : t * (b * u) = b * (t * u) := Int.mul_left_comm _ _ _
        omega
      have x2 : (p : Int) * (b * k) = b * (p * k) := Int.mul_left_comm _ _ _
      have x3 : t * (p * (-(b * u) / p)) = p * (t * (-(b * u) / p)) := Int.mul_left_comm _ _ _
      rw [h1] at x1
      omega
    rw [e2]
    constructor
    · intro z; exact Int.dvd_sub z e3
    · intro z
      have := Int.dvd_add z e3
      rw [Int.sub_add_cancel] at this; exact this
  refine ⟨a0, by omega, fun a ha => ?_⟩
  rw [key]
  constructor
  · rintro ⟨m, hm⟩
    have : m = 0 := by
      apply Classical.byContradiction
      intro z
      rcases Int.lt_or_gt_of_ne z with y | y
      · have := Int.mul_le_mul_of_nonneg_left (show m ≤ -1 by omega) (show (0 : Int) ≤ p by omega)
        omega
      · have := Int.mul_le_mul_of_nonneg_left (show 1 ≤ m by omega) (show (0 : Int) ≤ p by omega)
        omega
    rw [this] at hm
    omega
  · intro z; rw [z, Int.sub_self]; exact ⟨0, by omega⟩
/-- the sum over what one equation leaves -/
theorem js_lin {p : Nat} (hp : 0 < p) {t b : Int} (ht : un p t) {P : Nat → Prop} {Q : Prop} (h : ∀ a : Nat, a < p → (P a ↔ ((p : Int) ∣ t * a + b) ∧ Q)) : js (fun a => ind (P a)) p = ind Q := by
  obtain ⟨a0, a1, a2⟩ := lin_one hp (b := b) ht
  rw [js_congr (h := fun a => if a = a0 then ind Q else 0) (fun a ha => by
    try dsimp only
    by_cases z : a = a0
    · rw [if_pos z]
      exact ind_congr ((h a ha).trans ⟨fun y => y.2, fun y => ⟨(a2 a ha).mpr z, y⟩⟩)
    · rw [if_neg z]
      exact ind_f (fun y => z ((a2 a ha).mp ((h a ha).mp y).1)))]
  rw [js_delta (v := a0) (fun _ => ind Q), if_pos a1]
theorem js_all {p : Nat} {P : Nat → Prop} {Q : Prop} (h : ∀ a : Nat, a < p → (P a ↔ Q)) : js (fun a => ind (P a)) p = (p : Int) * ind Q := by
  rw [js_congr (h := fun _ => ind Q) (fun a ha => ind_congr (h a ha)), js_const]
