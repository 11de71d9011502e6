/-! TEXTS: the least of some, one after the other; the text of what hangs at a vertex -/
def tx_t (t : Nat → List Nat) (S : Int32) (k : Nat) : Option Nat → Option Nat
  | none => if bt S k = true then some k else none
  | some j => if bt S k = true then (if lx (t k) (t j) = true then some k else some j) else some j
def tx_s (t : Nat → List Nat) (S : Int32) : Nat → Nat → Option Nat → Option Nat
  | 0, _, b => b
  | m + 1, k, b => tx_s t S m (k + 1) (tx_t t S k b)
def tx_sl (t : Nat → List Nat) (S : Int32) : Option Nat := tx_s t S 12 0 none
def tx_c (t : Nat → List Nat) : Nat → Int32 → List Nat
  | 0, _ => []
  | m + 1, S => match tx_sl t S with
    | none => []
    | some j => t j ++ tx_c t m (S &&& (jk_bit j ^^^ (-1)))
def tx (f : jF) : Nat → Nat → Int32 → List Nat
  | 0, _, _ => []
  | m + 1, p, by' => 40 :: (tx_w (f.1 p) ++ (tx_c (fun k => tx f m k (jk_bit p)) 12 (f.2.1 p &&& (by' ^^^ (-1))) ++ [41]))
section
variable {t t' : Nat → List Nat} {S : Int32}
theorem tx_t_in {k j : Nat} {b : Option Nat} (h : tx_t t S k b = some j) : b = some j ∨ (j = k ∧ bt S k = true) := by
  cases b with
  | none =>
    have h : (if bt S k = true then some k else none) = some j := h
    by_cases q : bt S k = true
    · rw [if_pos q] at h; injection h with h; exact Or.inr ⟨h.symm, q⟩
    · rw [if_neg q] at h; cases h
  | some i =>
    have h : (if bt S k = true then (if lx (t k) (t i) = true then some k else some i) else some i) = some j := h
    by_cases q : bt S k = true
    · rw [if_pos q] at h
      by_cases w : lx (t k) (t i) = true
      · rw [if_pos w] at h; injection h with h; exact Or.inr ⟨h.symm, q⟩
      · rw [if_neg w] at h; exact Or.inl h
    · rw [if_neg q] at h; exact Or.inl h
theorem tx_t_some {k : Nat} {b : Option Nat} (h : (∃ j, b = some j) ∨ bt S k = true) : ∃ j, tx_t t S k b = some j := by
  cases b with
  | none =>
    rcases h with ⟨j, h⟩ | h
    · cases h
    · exact ⟨k, if_pos h⟩
  | some i =>
    unfold tx_t
    dsimp only
    split
    · split
      · exact ⟨_, rfl⟩
      · exact ⟨_, rfl⟩
    · exact ⟨_, rfl⟩
theorem tx_s_in {j : Nat} : ∀ {m k : Nat} {b : Option Nat}, tx_s t S m k b = some j → b = some j ∨ (k ≤ j ∧ j < k + m ∧ bt S j = true)
  | 0, k, b, h => Or.inl h
  | m + 1, k, b, h => by
    rcases tx_s_in (m := m) (k := k + 1) h with z | z
    · rcases tx_t_in z with w | ⟨w1, w2⟩
      · exact Or.inl w
      · subst w1; exact Or.inr ⟨Nat.le_refl _, by omega, w2⟩
    · exact Or.inr ⟨by omega, by omega, z.2.2⟩
theorem tx_s_some : ∀ {m k : Nat} {b : Option Nat}, ((∃ j, b = some j) ∨ ∃ i, k ≤ i ∧ i < k + m ∧ bt S i = true) → ∃ j, tx_s t S m k b = some j
  | 0, k, b, h => h.elim id (fun ⟨i, a, b, _⟩ => by omega)
  | m + 1, k, b, h => by
    refine tx_s_some (m := m) (k := k + 1) ?_
    rcases h with h | ⟨i, i1, i2, i3⟩
    · exact Or.inl (tx_t_some (Or.inl h))
    · rcases Nat.lt_or_ge k i with z | z
      · exact Or.inr ⟨i, z, by omega, i3⟩
      · obtain rfl : i = k := by omega
        exact Or.inl (tx_t_some (Or.inr i3))
theorem tx_s_congr (e : ∀ k, bt S k = true → t k = t' k) : ∀ {m k : Nat} {b : Option Nat}, (∀ j, b = some j → bt S j = true) → tx_s t S m k b = tx_s t' S m k b
  | 0, k, b, h => rfl
  | m + 1, k, b, h => by
    have main : tx_t t S k b = tx_t t' S k b := by
      cases b with
      | none => rfl
      | some i =>
        unfold tx_t
        dsimp only
        by_cases q : bt S k = true
        · rw [e k q, e i (h i rfl)]
        · rw [if_neg q, if_neg q]
    show tx_s t S m (k + 1) _ = tx_s t' S m (k + 1) _
    rw [← main]
    exact tx_s_congr e fun j hj => by
      rcases tx_t_in hj with w | ⟨w1, w2⟩
      · exact h _ w
      · rw [w1]; exact w2
theorem tx_sl_some {j : Nat} (h : tx_sl t S = some j) : j < 12 ∧ bt S j = true := by
  rcases tx_s_in h with z | z
  · cases z
  · exact ⟨by omega, z.2.2⟩
theorem tx_sl_ex {k : Nat} (hk : k < 12) (h : bt S k = true) : ∃ j, tx_sl t S = some j := tx_s_some (Or.inr ⟨k, by omega, by omega, h⟩)
theorem tx_sl_none (h : ∀ k, k < 12 → bt S k = false) : tx_sl t S = none := by
  cases e : tx_sl t S with
  | none => rfl
  | some j => obtain ⟨a, b⟩ := tx_sl_some e; rw [h j a] at b; cases b
theorem tx_sl_congr (e : ∀ k, bt S k = true → t k = t' k) : tx_sl t S = tx_sl t' S := tx_s_congr e (fun j h => by cases h)
theorem tx_s_skip {l : Nat} (hl : bt S l = true) (h0 : ∀ i, i < l → bt S i = false) : ∀ (n k m : Nat), k + n = l → tx_s t S (n + (m + 1)) k none = tx_s t S m (l + 1) (some l)
  | 0, k, m, e => by
    obtain rfl : k = l := by omega
    rw [Nat.zero_add]
    show tx_s t S m (k + 1) (tx_t t S k none) = _
    rw [show tx_t t S k none = some k from if_pos hl]
  | n + 1, k, m, e => by
    rw [show n + 1 + (m + 1) = (n + (m + 1)) + 1 by omega]
    show tx_s t S (n + (m + 1)) (k + 1) (tx_t t S k none) = _
    rw [show tx_t t S k none = none from if_neg (by rw [h0 k (by omega)]; simp)]
    exact tx_s_skip hl h0 n (k + 1) m (by omega)
theorem tx_sl_lo {l : Nat} (h : lo S = some l) : tx_sl t S = tx_s t S (11 - l) (l + 1) (some l) := by
  obtain ⟨a, b, c⟩ := lo_some.mp h
  have := tx_s_skip (t := t) b c l 0 (11 - l) (by omega)
  rw [show l + (11 - l + 1) = 12 by omega] at this
  exact this
theorem clr_bt {j k : Nat} (hj : j < 12) (hk : k < 32) : bt (S &&& (jk_bit j ^^^ (-1))) k = (bt S k && !decide (k = j)) := by
  rw [bt_and, bt_not _ hk, bt_bit (by omega) hk]
theorem clr_sub {j k : Nat} (h : bt (S &&& (jk_bit j ^^^ (-1))) k = true) : bt S k = true := by
  rw [bt_and] at h; simp at h; exact h.1
theorem tx_c_congr : ∀ {m : Nat} {S : Int32}, (∀ k, bt S k = true → t k = t' k) → tx_c t m S = tx_c t' m S
  | 0, S, e => rfl
  | m + 1, S, e => by
    unfold tx_c
    rw [tx_sl_congr e]
    cases q : tx_sl t' S with
    | none => rfl
    | some j => dsimp only; rw [e j (tx_sl_some q).2, tx_c_congr fun k hk => e k (clr_sub hk)]
theorem tx_c_nil {m : Nat} (h : ∀ k, k < 12 → bt S k = false) : tx_c t m S = [] := by
  cases m with
  | zero => rfl
  | succ m => unfold tx_c; rw [tx_sl_none h]
theorem tx_c_all {P : Nat → Prop} : ∀ {m : Nat} {S : Int32}, (∀ k, bt S k = true → ∀ b, b ∈ t k → P b) → ∀ b, b ∈ tx_c t m S → P b
  | 0, S, e, b, h => by cases h
  | m + 1, S, e, b, h => by
    unfold tx_c at h
    cases q : tx_sl t S with
    | none => rw [q] at h; cases h
    | some j =>
      rw [q] at h
      rcases List.mem_append.mp h with h | h
      · exact e j (tx_sl_some q).2 b h
      · exact tx_c_all (fun k hk => e k (clr_sub hk)) b h
theorem tx_c_len : ∀ {m : Nat} {S : Int32}, bc S ≤ m → ((tx_c t m S).length : Int) = js (fun k => if bt S k = true then ((t k).length : Int) else 0) 12
  | 0, S, h => by
    have z : ∀ k, k < 12 → bt S k = false := fun k hk => by
      cases q : bt S k
      · rfl
      · have := bc_pos hk q; omega
    rw [tx_c_nil z, js_congr (h := fun _ => 0) (fun k hk => by rw [if_neg (by rw [z k hk]; simp)]), js_0]; rfl
  | m + 1, S, h => by
    cases q : tx_sl t S with
    | none =>
      have z : ∀ k, k < 12 → bt S k = false := fun k hk => by
        cases w : bt S k
        · rfl
        · obtain ⟨j, e⟩ := tx_sl_ex (t := t) hk w; rw [q] at e; cases e
      rw [tx_c_nil z, js_congr (h := fun _ => 0) (fun k hk => by rw [if_neg (by rw [z k hk]; simp)]), js_0]; rfl
    | some j =>
      obtain ⟨j12, bj⟩ := tx_sl_some q
      have c := bc_clr_eq j12 bj
      have e : tx_c t (m + 1) S = t j ++ tx_c t m (S &&& (jk_bit j ^^^ (-1))) := by
        show (match tx_sl t S with | none => [] | some j => t j ++ tx_c t m (S &&& (jk_bit j ^^^ (-1)))) = _
        rw [q]
      rw [e, List.length_append, Int.natCast_add, tx_c_len (by omega)]
      rw [js_congr (g := fun k => if bt S k = true then ((t k).length : Int) else 0) (h := fun k => (if k = j then ((t k).length : Int) else 0) + (if bt (S &&& (jk_bit j ^^^ (-1))) k = true then ((t k).length : Int) else 0)) (fun k hk => ?_), js_add, js_delta, if_pos j12]
      rw [clr_bt j12 (by omega)]
      by_cases z : k = j
      · subst z; rw [bj]; simp
      · rw [if_neg z]; simp [z]
end
/-- of every vertex there is a walk over its tree -/
theorem wy_ex {f : jF} (W : jf_W f) {p : Nat} (hp : p < 12) (sp : bt f.2.2 p = true) : ∃ o par sz, wy_J f p o par sz := by
  let h0 : jxH := (0, 0, fun _ => jxI 0 12 fun _ => 0)
  let h1 := jx_set h0 0 (jxO 10 [.ref (0 + 1), .ref (0 + 2), .ref (0 + 3), .int 0, .int 0])
  let h2 := jx_set h1 1 (jxI 0 12 fun _ => 0)
  let h3 := jx_set h2 2 (jxI 0 12 fun _ => 0)
  let h4 := jx_set h3 3 (jxI 0 12 fun _ => 0)
  let h5 := jx_set h4 10 (jxO 1 [.ref (10 + 1), .ref (10 + 2), .int f.2.2])
  let h6 := jx_set h5 11 (jxI 0 12 f.1)
  let h7 := jx_set h6 12 (jxI 0 12 f.2.1)
  have K : wk_ok h7 0 := by
    refine ⟨⟨0, 0, ?_⟩, ⟨fun _ => 0, ?_⟩, ⟨fun _ => 0, ?_⟩, fun _ => 0, ?_⟩
    all_goals simp [h7, h6, h5, h4, h3, h2, h1, jk_at_ne, jk_at_self]
  have G : fo_at h7 10 f := by
    refine ⟨?_, ⟨f.1, ?_, fun k _ => rfl⟩, f.2.1, ?_, fun k _ => rfl⟩
    all_goals simp [h7, h6, h5, h4, h3, h2, h1, jk_at_ne, jk_at_self]
  obtain ⟨h', o, par, dep, sz, -, -, J, s0, op, pp, -⟩ := wk_from (rc := fun _ => (0, fun _ => 0)) K G W (by omega) hp sp
  exact ⟨o, par, sz, wy_J_of W.1 hp J s0 op pp⟩
