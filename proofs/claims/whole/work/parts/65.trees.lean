/-! How many trees: vertices less edges, and vertices that are the least of theirs -/
section
variable {f : jF}
def iB (S : Int32) : Nat → Bool := bt S
theorem jt_layer_d (B : jf_B f) {S S' : Int32} (hS : S12 S) (hS' : S12 S') (h1 : ∀ y, bt S y = true → bt S' y = true) (h2 : ∀ y, bt S' y = true → bt S y = true ∨ ∃ x, x < 12 ∧ bt S x = true ∧ bt (f.2.1 x) y = true) : ∀ n, n ≤ 12 → dU (bt S) (jf_e f) + 2 * (cU (fun y => bt S y || (bt S' y && decide (y < n))) - cU (bt S)) ≤ dU (fun y => bt S y || (bt S' y && decide (y < n))) (jf_e f)
  | 0, _ => by
    have e : (fun y => bt S y || (bt S' y && decide (y < 0))) = bt S := funext fun y => by simp
    rw [e]; omega
  | n + 1, hn => by
    have ih := jt_layer_d B hS hS' h1 h2 n (by omega)
    by_cases c : bt S' n = true ∧ bt S n = false
    · have e : (fun y => bt S y || (bt S' y && decide (y < n + 1))) = uA (fun y => bt S y || (bt S' y && decide (y < n))) n := funext fun y => by
        unfold uA
        by_cases z : y = n
        · subst z; simp [c.1]
        · have : (y < n + 1) ↔ (y < n) := by omega
          simp [z, this]
      have nn : (fun y => bt S y || (bt S' y && decide (y < n))) n = false := by simp [c.2]
      have a := dU_add (U := fun y => bt S y || (bt S' y && decide (y < n))) (e := jf_e f) (v := n) (by omega) nn B.esym (B.eirr n (by omega))
      have b := cU_add (U := fun y => bt S y || (bt S' y && decide (y < n))) (v := n) (by omega) nn
      rw [e]
      obtain ⟨x, x1, x2, x3⟩ := (h2 n c.1).resolve_left (fun q => by rw [c.2] at q; cases q)
      have d := nU_one (U := fun y => bt S y || (bt S' y && decide (y < n))) (n := jf_e f n) x1 (by simp [x2]) (by rw [B.esym n x (by omega) x1]; exact x3)
      omega
    · have e : (fun y => bt S y || (bt S' y && decide (y < n + 1))) = (fun y => bt S y || (bt S' y && decide (y < n))) := funext fun y => by
        by_cases z : y = n
        · subst z
          cases u : bt S y
          · cases v : bt S' y
            · simp
            · exact absurd ⟨v, u⟩ c
          · simp
        · have : (y < n + 1) ↔ (y < n) := by omega
          simp [this]
      rw [e]; exact ih
theorem jt_L_d (B : jf_B f) {p : Nat} (hp : p < 12) : ∀ k, 2 * cU (bt (jt_L f p k)) - 2 ≤ dU (bt (jt_L f p k)) (jf_e f)
  | 0 => by
    have e : bt (jt_L f p 0) = uA (fun _ => false) p := funext fun x => by
      unfold uA
      show bt (jk_bit p) x = _
      by_cases hx : x < 32
      · rw [bt_bit (by omega) hx]; simp
      · rw [bt_big _ (by omega)]; simp; omega
    rw [e, cU_add hp rfl]
    have := dU_nn (uA (fun _ => false) p) (jf_e f)
    have z : cU (fun _ => false) = 0 := js_0 12
    omega
  | k + 1 => by
    have a := jt_layer_d B (jt_L_S B.n hp k) (jt_L_S B.n hp (k + 1)) (fun y hy => (jt_L_succ f p k y).mpr (Or.inl hy)) (fun y hy => (jt_L_succ f p k y).mp hy) 12 (Nat.le_refl _)
    have e : (fun y => bt (jt_L f p k) y || (bt (jt_L f p (k + 1)) y && decide (y < 12))) = bt (jt_L f p (k + 1)) := funext fun y => by
      cases u : bt (jt_L f p (k + 1)) y
      · cases v : bt (jt_L f p k) y
        · rfl
        · rw [(jt_L_succ f p k y).mpr (Or.inl v)] at u; cases u
      · have : y < 12 := by
          apply Classical.byContradiction; intro z
          rw [jt_L_S B.n hp (k + 1) y (by omega)] at u; cases u
        simp [this]
    rw [e] at a
    have := jt_L_d B hp k
    omega
/-- a tree has one edge less than it has vertices -/
theorem jt_T_d (W : jf_W f) {p : Nat} (hp : p < 12) (sp : bt f.2.2 p = true) : dU (bt (jt_T f p)) (jf_e f) = 2 * cU (bt (jt_T f p)) - 2 := by
  have a := jt_L_d W.1 hp 12
  have b := W.2 (bt (jt_T f p)) (fun x hx => jt_T_in W.1 hp sp hx) ⟨p, jt_T_self f hp⟩
  unfold jt_T at *
  omega
/-- is p the least of its tree -/
def jt_r (f : jF) (p : Nat) : Bool := bt f.2.2 p && decide (lo (jt_T f p) = some p)
def jt_n (f : jF) (n : Nat) : Nat := (List.range n).countP (jt_r f)
/-- in the trees of the first n -/
def jt_V (f : jF) (n : Nat) : Nat → Bool := fun y => (List.range n).any (fun r => bt (jt_T f r) y && jt_r f r)
theorem jt_V_succ (f : jF) (n y : Nat) : jt_V f (n + 1) y = (jt_V f n y || (bt (jt_T f n) y && jt_r f n)) := by
  unfold jt_V
  rw [List.range_succ, List.any_append]
  simp
theorem jt_V_mem {n y : Nat} (h : jt_V f n y = true) : ∃ r, r < n ∧ bt (jt_T f r) y = true ∧ jt_r f r = true := by
  unfold jt_V at h
  rw [List.any_eq_true] at h
  obtain ⟨r, a, b⟩ := h
  rw [Bool.and_eq_true] at b
  exact ⟨r, List.mem_range.mp a, b.1, b.2⟩
theorem jt_r_at {p : Nat} (h : jt_r f p = true) : bt f.2.2 p = true ∧ lo (jt_T f p) = some p := by
  unfold jt_r at h
  simpa using h
theorem jt_n_succ (f : jF) (n : Nat) : (jt_n f (n + 1) : Int) = jt_n f n + i01 (jt_r f n) := by
  unfold jt_n
  rw [List.range_succ, List.countP_append, List.countP_cons, List.countP_nil]
  cases jt_r f n <;> simp [i01]
theorem jt_V_d (W : jf_W f) : ∀ n, n ≤ 12 → dU (jt_V f n) (jf_e f) = 2 * cU (jt_V f n) - 2 * jt_n f n
  | 0, _ => by
    have e : jt_V f 0 = fun _ => false := rfl
    rw [e]
    have z : cU (fun _ => false) = 0 := js_0 12
    have d : dU (fun _ => false) (jf_e f) = 0 := by
      unfold dU
      rw [js_congr (h := fun _ => 0) (fun x _ => ?_), js_0]
      rw [js_congr (h := fun _ => 0) (fun y _ => ?_), js_0]
      rfl
    rw [z, d]; rfl
  | n + 1, hn => by
    have ih := jt_V_d W n (by omega)
    have n12 : n < 12 := by omega
    rw [jt_n_succ]
    cases c : jt_r f n
    · have e : jt_V f (n + 1) = jt_V f n := funext fun y => by rw [jt_V_succ, c]; simp
      rw [e, ih]; simp [i01]
    · obtain ⟨c1, c2⟩ := jt_r_at c
      have disj : ∀ y, bt (jt_T f n) y = true → jt_V f n y = false := fun y hy => by
        cases v : jt_V f n y
        · rfl
        · obtain ⟨r, r1, r2, r3⟩ := jt_V_mem v
          obtain ⟨r4, r5⟩ := jt_r_at r3
          have y12 := (jt_T_in W.1 n12 c1 hy).1
          have e1 := jt_T_sym W.1 n12 hy
          have e2 := jt_T_sym W.1 (show r < 12 by omega) r2
          rw [← e1, e2, r5] at c2
          injection c2 with c2
          omega
      have s1 := dU_split (U := jt_V f (n + 1)) (T := bt (jt_T f n)) (e := jf_e f) (fun x y hx hy _ _ h => jt_T_edge W.1 n12 hx hy h)
      have s2 := cU_split (U := jt_V f (n + 1)) (T := bt (jt_T f n))
      have e1 : (fun x => jt_V f (n + 1) x && bt (jt_T f n) x) = bt (jt_T f n) := funext fun y => by
        rw [jt_V_succ, c]
        cases bt (jt_T f n) y <;> simp
      have e2 : (fun x => jt_V f (n + 1) x && !bt (jt_T f n) x) = jt_V f n := funext fun y => by
        rw [jt_V_succ, c]
        cases u : bt (jt_T f n) y
        · simp
        · simp [disj y u]
      rw [e1, e2] at s1 s2
      have t := jt_T_d W n12 c1
      simp only [i01, if_true]
      omega
theorem jt_V_all (B : jf_B f) : jt_V f 12 = bt f.2.2 := funext fun y => by
  cases u : bt f.2.2 y
  · cases v : jt_V f 12 y
    · rfl
    · obtain ⟨r, r1, r2, r3⟩ := jt_V_mem v
      have := (jt_T_in B r1 (jt_r_at r3).1 r2).2
      rw [u] at this; cases this
  · have y12 : y < 12 := by
      apply Classical.byContradiction; intro z
      rw [B.s y (by omega)] at u; cases u
    obtain ⟨r, hr⟩ := bc_lo (x := jt_T f y) (bc_pos y12 (jt_T_self f y12))
    obtain ⟨r1, r2, r3⟩ := lo_some.mp hr
    have e := jt_T_sym B y12 r2
    have rs := (jt_T_in B y12 u r2).2
    unfold jt_V
    rw [List.any_eq_true]
    refine ⟨r, List.mem_range.mpr r1, ?_⟩
    unfold jt_r
    rw [e, jt_T_self f y12, rs, hr]; simp
theorem js_bc (S : Int32) : js (fun y => i01 (bt S y)) 12 = bc S := by
  have : ∀ n, js (fun y => i01 (bt S y)) n = ((List.range n).countP (bt S) : Nat) := by
    intro n
    induction n with
    | zero => rfl
    | succ n ih =>
      show js _ n + i01 (bt S n) = _
      rw [ih, List.range_succ, List.countP_append, List.countP_cons, List.countP_nil]
      cases bt S n <;> simp [i01]
  exact this 12
theorem jk_sum_nat (g : Nat → Nat) : ∀ n, ∃ N : Nat, jk_sum (fun p => Int32.ofNat (g p)) n = Int32.ofNat N ∧ (N : Int) = js (fun p => (g p : Int)) n
  | 0 => ⟨0, rfl, rfl⟩
  | n + 1 => by
    obtain ⟨N, h1, h2⟩ := jk_sum_nat g n
    refine ⟨N + g n, ?_, ?_⟩
    · show jk_sum _ n + Int32.ofNat (g n) = _
      rw [h1, Int32.ofNat_add]
    · show _ = js _ n + (g n : Int)
      rw [← h2]; omega
/-- trees() -/
theorem jF_trees_n (W : jf_W f) : jF_trees f = Int32.ofNat (jt_n f 12) := by
  have B := W.1
  have d := jt_V_d W 12 (Nat.le_refl _)
  rw [jt_V_all B] at d
  have e1 : dU (bt f.2.2) (jf_e f) = js (fun x => (bc (f.2.1 x) : Int)) 12 := js_congr fun x hx => by
    rw [← js_bc]
    apply js_congr
    intro y hy
    show i01 (bt f.2.2 x && bt f.2.2 y && bt (f.2.1 x) y) = _
    cases u : bt (f.2.1 x) y
    · simp
    · obtain ⟨-, a, -, b⟩ := B.nb hx u
      rw [a, b]; rfl
  have e2 : cU (bt f.2.2) = bc f.2.2 := js_bc f.2.2
  obtain ⟨N, h1, h2⟩ := jk_sum_nat (fun p => bc (f.2.1 p)) 12
  rw [e1, ← h2, e2] at d
  have b12 := bc_le f.2.2
  have le : jt_n f 12 ≤ bc f.2.2 := by
    have := Int.natCast_nonneg N
    omega
  obtain ⟨E, rfl⟩ : ∃ E, N = 2 * E := ⟨N / 2, by omega⟩
  unfold jF_trees
  rw [h1, show (2 : Int32) = Int32.ofNat 2 from rfl, ← Int32.ofNat_div (by omega) (by decide), show 2 * E / 2 = E by omega, ← Int32.ofNat_sub _ _ (by omega), show bc f.2.2 - E = jt_n f 12 by omega]
end
section
variable {rc : Nat → Nat × (Nat → Int32)} {h : jxH} {b : Nat} {f : jF}
theorem rf_trees_l (H : ro_at h b f) (B : jf_B f) (d : Nat) : ∀ (m k : Nat), k + m = 12 → jb_86 rc (d + 3) 4 [(0, .ref b), (1, .int (Int32.ofNat (jt_n f k))), (2, .int (Int32.ofNat k))] [] h = some (some (.int (Int32.ofNat (jt_n f 12))), h)
  | 0, k, e => by
    obtain rfl : k = 12 := by omega
    rw [je_86_4, if_pos (by decide)]
  | m + 1, k, e => by
    have k12 : k < 12 := by omega
    have sn : jt_n f (k + 1) = jt_n f k + (if jt_r f k = true then 1 else 0) := by
      have := jt_n_succ f k
      unfold i01 at this
      split at this
      · rename_i z; rw [if_pos z]; omega
      · rename_i z; rw [if_neg z]; omega
    have i := rf_trees_l H B d m (k + 1) (by omega)
    rw [sn] at i
    rw [je_86_4, if_neg (jk_n12 k12), ro_0 H, jk_bs, rf_has _ _ (by omega), jk_cI, jk_if0, jk_succ]
    by_cases c : bt f.2.2 k = true
    · rw [if_pos c, rf_treeOf H B.n k12, jk_cI]
      obtain ⟨r, hr⟩ := bc_lo (x := jt_T f k) (bc_pos k12 (jt_T_self f k12))
      rw [rf_lowest _ hr, jk_cI]
      have r12 := (lo_some.mp hr).1
      by_cases c2 : r = k
      · subst c2
        rw [if_pos (show jt_r f r = true by unfold jt_r; rw [c, hr]; simp)] at i
        rw [if_pos rfl, jk_succ]
        exact i
      · rw [if_neg (show ¬ jt_r f k = true by unfold jt_r; rw [hr]; simp [c2])] at i
        rw [if_neg (fun z => c2 ((jk_inj (by omega) (by omega)).mp z)), Int32.add_zero]
        simp only [Nat.add_zero] at i
        simp only [jk_succ]
        exact i
    · rw [if_neg (show ¬ jt_r f k = true by unfold jt_r; simp [c])] at i
      rw [if_neg c, Int32.add_zero]
      simp only [Nat.add_zero] at i
      simp only [jk_succ]
      exact i
theorem rf_trees (H : ro_at h b f) (W : jf_W f) (d : Nat) : jx_C rc (d + 4) 86 [.ref b] h = some (some (.int (jF_trees f)), h) := by
  rw [je_86, jF_trees_n W]
  exact rf_trees_l H W.1 d 12 0 (by omega)
end
