/-! WU: sets over two: rows taken together, the solutions, their number, the least of them -/
def xr (g : Nat → Bool) : Nat → Bool
  | 0 => false
  | n + 1 => xr g n ^^ g n
theorem xr_congr {g h : Nat → Bool} : ∀ {n : Nat}, (∀ k, k < n → g k = h k) → xr g n = xr h n
  | 0, _ => rfl
  | n + 1, e => by
    show (xr g n ^^ g n) = (xr h n ^^ h n)
    rw [xr_congr fun k hk => e k (by omega), e n (by omega)]
theorem xr_add (g h : Nat → Bool) : ∀ n, xr (fun k => g k ^^ h k) n = (xr g n ^^ xr h n)
  | 0 => rfl
  | n + 1 => by
    show (xr (fun k => g k ^^ h k) n ^^ (g n ^^ h n)) = ((xr g n ^^ g n) ^^ (xr h n ^^ h n))
    rw [xr_add g h n]
    cases xr g n <;> cases xr h n <;> cases g n <;> cases h n <;> rfl
theorem xr_0 : ∀ n, xr (fun _ => false) n = false
  | 0 => rfl
  | n + 1 => by
    show (xr (fun _ => false) n ^^ false) = false
    rw [xr_0 n]; rfl
theorem xr_and (b : Bool) (g : Nat → Bool) (n : Nat) : xr (fun k => b && g k) n = (b && xr g n) := by
  cases b
  · simp [xr_0]
  · simp
theorem xr_delta {v : Nat} (g : Nat → Bool) : ∀ {n : Nat}, v < n → xr (fun k => decide (k = v) && g k) n = g v
  | 0, h => by omega
  | n + 1, h => by
    show (xr (fun k => decide (k = v) && g k) n ^^ (decide (n = v) && g n)) = g v
    by_cases z : n = v
    · subst z
      rw [xr_congr (h := fun _ => false) (fun k hk => by rw [decide_eq_false (by omega)]; rfl), xr_0]
      simp
    · rw [xr_delta g (n := n) (by omega), decide_eq_false z]
      simp
theorem xr_swap (g : Nat → Nat → Bool) : ∀ n m : Nat, xr (fun k => xr (fun l => g k l) m) n = xr (fun l => xr (fun k => g k l) n) m
  | 0, m => by
    show false = xr (fun _ => false) m
    rw [xr_0]
  | n + 1, m => by
    show (xr (fun k => xr (fun l => g k l) m) n ^^ xr (fun l => g n l) m) = xr (fun l => xr (fun k => g k l) n ^^ g n l) m
    rw [xr_swap g n m, ← xr_add]
/-- what stands off the diagonal falls away -/
theorem xr_diag {g : Nat → Nat → Bool} : ∀ {n : Nat}, (∀ k l, k < n → l < n → g k l = g l k) → xr (fun k => xr (fun l => g k l) n) n = xr (fun k => g k k) n
  | 0, _ => rfl
  | n + 1, s => by
    show (xr (fun k => xr (fun l => g k l) n ^^ g k n) n ^^ (xr (fun l => g n l) n ^^ g n n)) = (xr (fun k => g k k) n ^^ g n n)
    rw [xr_add, xr_diag (fun k l hk hl => s k l (by omega) (by omega)), xr_congr (g := fun k => g k n) (h := fun l => g n l) (fun k hk => s k n (by omega) (by omega))]
    cases xr (fun k => g k k) n <;> cases xr (fun l => g n l) n <;> cases g n n <;> rfl
/-- is a row not met -/
def eqv (r S : Int32) : Bool := xr (fun j => bt S j && bt r j) 12 ^^ bt r 12
theorem eqv_xor (x y S : Int32) : eqv (x ^^^ y) S = (eqv x S ^^ eqv y S) := by
  unfold eqv
  rw [xr_congr (g := fun j => bt S j && bt (x ^^^ y) j) (h := fun j => (bt S j && bt x j) ^^ (bt S j && bt y j)) (fun j _ => by rw [bt_xor]; cases bt S j <;> cases bt x j <;> cases bt y j <;> rfl), xr_add, bt_xor]
  cases xr (fun j => bt S j && bt x j) 12 <;> cases xr (fun j => bt S j && bt y j) 12 <;> cases bt x 12 <;> cases bt y 12 <;> rfl
theorem eqv_cong {r S S' : Int32} (h : ∀ j, j < 12 → bt r j = true → bt S j = bt S' j) : eqv r S = eqv r S' := by
  unfold eqv
  rw [xr_congr fun j hj => ?_]
  cases w : bt r j
  · simp
  · rw [h j hj w]
/-- the first row from k on that has the column -/
def el_f (R : Nat → Int32) (c : Nat) : Nat → Nat → Option Nat
  | 0, _ => none
  | m + 1, i => if bt (R i) c = true then some i else el_f R c m (i + 1)
def el_s (R : Nat → Int32) (i k : Nat) : Nat → Int32 := upd (upd R i (R k)) k (R i)
def el_c (R : Nat → Int32) (c k : Nat) : Nat → Int32 := fun i => if i = k then R i else if bt (R i) c = true then R i ^^^ R k else R i
/-- the columns one after the other -/
def el : Nat → Nat → (Nat → Int32) → Nat → (Nat → Int32) × Nat
  | 0, _, R, k => (R, k)
  | m + 1, c, R, k => match el_f R c (12 - k) k with
    | some i => el m (c + 1) (el_c (el_s R i k) c k) (k + 1)
    | none => el m (c + 1) R k
theorem el_f_some {R : Nat → Int32} {c j : Nat} : ∀ {m i : Nat}, el_f R c m i = some j → i ≤ j ∧ j < i + m ∧ bt (R j) c = true
  | 0, i, h => by cases h
  | m + 1, i, h => by
    unfold el_f at h
    by_cases z : bt (R i) c = true
    · rw [if_pos z] at h; injection h with h; subst h; exact ⟨Nat.le_refl _, by omega, z⟩
    · rw [if_neg z] at h
      obtain ⟨a, b, d⟩ := el_f_some h
      exact ⟨by omega, by omega, d⟩
theorem el_f_none {R : Nat → Int32} {c : Nat} : ∀ {m i : Nat}, el_f R c m i = none → ∀ j, i ≤ j → j < i + m → bt (R j) c = false
  | 0, i, h, j, h1, h2 => by omega
  | m + 1, i, h, j, h1, h2 => by
    unfold el_f at h
    by_cases z : bt (R i) c = true
    · rw [if_pos z] at h; cases h
    · rw [if_neg z] at h
      by_cases w : j = i
      · subst w; cases y : bt (R j) c
        · rfl
        · exact absurd y z
      · exact el_f_none h j (by omega) (by omega)
/-- rows are sums of the first rows; their solutions are the same; pivots -/
def el_J (R0 : Nat → Int32) (c : Nat) (R : Nat → Int32) (k : Nat) (pv : Nat → Nat) : Prop :=
  (∀ i, i < 12 → ∃ Y : Nat → Bool, ∀ l, l < 13 → bt (R i) l = xr (fun j => Y j && bt (R0 j) l) 12) ∧
  (∀ S, (∀ i, i < 12 → eqv (R i) S = false) → ∀ i, i < 12 → eqv (R0 i) S = false) ∧
  (∀ S, (∀ i, i < 12 → eqv (R0 i) S = false) → ∀ i, i < 12 → eqv (R i) S = false) ∧
  (∀ i, i < k → pv i < c ∧ bt (R i) (pv i) = true ∧ (∀ j, j < pv i → bt (R i) j = false) ∧ ∀ i', i' < 12 → i' ≠ i → bt (R i') (pv i) = false) ∧
  (∀ i, k ≤ i → i < 12 → ∀ j, j < c → bt (R i) j = false) ∧ k ≤ 12
section
variable {R0 R : Nat → Int32} {c k i : Nat} {pv : Nat → Nat}
theorem el_s_k (R : Nat → Int32) (i k : Nat) : el_s R i k k = R i := by unfold el_s upd; rw [if_pos rfl]
theorem el_s_i {i k : Nat} (R : Nat → Int32) (h : i ≠ k) : el_s R i k i = R k := by unfold el_s upd; rw [if_neg h, if_pos rfl]
theorem el_s_ne {i k j : Nat} (R : Nat → Int32) (h : j ≠ k) (h2 : j ≠ i) : el_s R i k j = R j := by unfold el_s upd; rw [if_neg h, if_neg h2]
/-- a row after a swap is a row -/
theorem el_s_is (R : Nat → Int32) (i k j : Nat) : ∃ j', el_s R i k j = R j' ∧ (j' = j ∨ (j = k ∧ j' = i) ∨ (j = i ∧ j' = k)) := by
  by_cases z : j = k
  · subst z; exact ⟨i, el_s_k R i j, Or.inr (Or.inl ⟨rfl, rfl⟩)⟩
  · by_cases w : j = i
    · subst w; exact ⟨k, el_s_i R z, Or.inr (Or.inr ⟨rfl, rfl⟩)⟩
    · exact ⟨j, el_s_ne R z w, Or.inl rfl⟩
theorem el_s_on (R : Nat → Int32) (i k j : Nat) : ∃ j', el_s R i k j' = R j ∧ (j' = j ∨ (j = k ∧ j' = i) ∨ (j = i ∧ j' = k)) := by
  by_cases z : j = i
  · subst z; exact ⟨k, el_s_k R j k, Or.inr (Or.inr ⟨rfl, rfl⟩)⟩
  · by_cases w : j = k
    · subst w; exact ⟨i, el_s_i R (fun y => z y.symm), Or.inr (Or.inl ⟨rfl, rfl⟩)⟩
    · exact ⟨j, el_s_ne R w z, Or.inl rfl⟩
theorem el_J_none (J : el_J R0 c R k pv) (h : el_f R c (12 - k) k = none) : el_J R0 (c + 1) R k pv := by
  obtain ⟨a1, a2, a3, a4, a5, a6⟩ := J
  refine ⟨a1, a2, a3, fun i hi => ?_, fun i h1 h2 j hj => ?_, a6⟩
  · obtain ⟨b1, b2⟩ := a4 i hi; exact ⟨by omega, b2⟩
  · by_cases z : j = c
    · subst z; exact el_f_none h i h1 (by omega)
    · exact a5 i h1 h2 j (by omega)
theorem el_J_some (J : el_J R0 c R k pv) (h : el_f R c (12 - k) k = some i) : el_J R0 (c + 1) (el_c (el_s R i k) c k) (k + 1) (fun n => if n = k then c else pv n) := by
  obtain ⟨a1, a2, a3, a4, a5, a6⟩ := J
  obtain ⟨h1, h2, h3⟩ := el_f_some h
  have k12 : k < 12 := by omega
  have i12 : i < 12 := by omega
  have ek : el_c (el_s R i k) c k k = R i := by unfold el_c; rw [if_pos rfl, el_s_k]
  have en : ∀ n, n ≠ k → el_c (el_s R i k) c k n = (if bt (el_s R i k n) c = true then el_s R i k n ^^^ R i else el_s R i k n) := fun n hn => by
    unfold el_c; rw [if_neg hn, el_s_k]
  -- bits ahead of the column
  have early : ∀ n l, n < 12 → l < c → bt (el_c (el_s R i k) c k n) l = bt (el_s R i k n) l := fun n l hn hl => by
    by_cases z : n = k
    · subst z; rw [ek, el_s_k]
    · rw [en n z]
      split
      · rw [bt_xor, a5 i h1 i12 l hl]; simp
      · rfl
  have col : ∀ n, n < 12 → n ≠ k → bt (el_c (el_s R i k) c k n) c = false := fun n hn z => by
    rw [en n z]
    split
    · rename_i w; rw [bt_xor, w, h3]; rfl
    · rename_i w; cases y : bt (el_s R i k n) c
      · rfl
      · exact absurd y w
  refine ⟨fun n hn => ?_, fun S hS => ?_, fun S hS => ?_, fun n hn => ?_, fun n n1 n2 j hj => ?_, k12⟩
  · obtain ⟨Yi, yi⟩ := a1 i i12
    by_cases z : n = k
    · subst z; rw [ek]; exact ⟨Yi, yi⟩
    · obtain ⟨n', e, w⟩ := el_s_is R i k n
      have n12' : n' < 12 := by omega
      obtain ⟨Yn, yn⟩ := a1 n' n12'
      rw [en n z, e]
      split
      · refine ⟨fun j => Yn j ^^ Yi j, fun l hl => ?_⟩
        rw [bt_xor, yn l hl, yi l hl, ← xr_add]
        exact xr_congr fun j _ => by
          dsimp only
          cases Yn j <;> cases Yi j <;> cases bt (R0 j) l <;> rfl
      · exact ⟨Yn, yn⟩
  · refine a2 S fun n hn => ?_
    obtain ⟨n', e, w⟩ := el_s_on R i k n
    have n12' : n' < 12 := by omega
    have q := hS n' n12'
    have qk := hS k k12
    rw [ek] at qk
    rw [← e]
    by_cases z : n' = k
    · rw [z, el_s_k]; exact qk
    · rw [en n' z] at q
      split at q
      · rw [eqv_xor, qk] at q; simpa using q
      · exact q
  · have q := a3 S hS
    by_cases z : ∀ n, n < 12 → eqv (el_c (el_s R i k) c k n) S = false
    · exact z
    · intro n hn
      by_cases y : n = k
      · rw [y, ek]; exact q i i12
      · obtain ⟨n', e, w⟩ := el_s_is R i k n
        have n12' : n' < 12 := by omega
        rw [en n y, e]
        split
        · rw [eqv_xor, q n' n12', q i i12]; rfl
        · exact q n' n12'
  · dsimp only
    by_cases z : n = k
    · subst z
      rw [if_pos rfl, ek]
      exact ⟨by omega, h3, fun j hj => a5 i h1 i12 j hj, fun n' n1 n2 => col n' n1 n2⟩
    · have nk : n < k := by omega
      rw [if_neg z]
      obtain ⟨b1, b2, b3, b4⟩ := a4 n nk
      have e : el_s R i k n = R n := el_s_ne R z (by omega)
      refine ⟨by omega, ?_, fun j hj => ?_, fun n' n1 n2 => ?_⟩
      · rw [early n _ (by omega) b1, e]; exact b2
      · rw [early n _ (by omega) (by omega), e]; exact b3 j hj
      · rw [early n' _ n1 b1]
        obtain ⟨n'', e', w⟩ := el_s_is R i k n'
        rw [e']
        exact b4 n'' (by omega) (by omega)
  · by_cases z : j = c
    · subst z; exact col n n2 (by omega)
    · rw [early n j n2 (by omega)]
      obtain ⟨n', e', w⟩ := el_s_is R i k n
      rw [e']
      exact a5 n' (by omega) (by omega) j (by omega)
theorem el_J_all : ∀ (m c : Nat) (R : Nat → Int32) (k : Nat) (pv : Nat → Nat), el_J R0 c R k pv → ∃ pv', el_J R0 (c + m) (el m c R k).1 (el m c R k).2 pv'
  | 0, c, R, k, pv, J => ⟨pv, J⟩
  | m + 1, c, R, k, pv, J => by
    unfold el
    rw [show c + (m + 1) = c + 1 + m by omega]
    cases h : el_f R c (12 - k) k with
    | none => exact el_J_all m (c + 1) R k pv (el_J_none J h)
    | some i => exact el_J_all m (c + 1) _ (k + 1) _ (el_J_some J h)
theorem el_J_0 (R0 : Nat → Int32) : el_J R0 0 R0 0 (fun _ => 0) :=
  ⟨fun i hi => ⟨fun j => decide (j = i), fun l _ => (xr_delta (fun j => bt (R0 j) l) hi).symm⟩, fun S h => h, fun S h => h, fun i hi => by omega, fun i _ _ j hj => by omega, Nat.zero_le _⟩
end
