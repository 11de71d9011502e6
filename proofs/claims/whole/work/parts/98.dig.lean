/-! fewest(): what so many moves leave; pruning changes nothing -/
theorem bc_clr_eq {x : Int32} {p : Nat} (hp : p < 12) (h : bt x p = true) : bc (x &&& (jk_bit p ^^^ (-1))) + 1 = bc x := by
  have c : bt (x &&& (jk_bit p ^^^ (-1))) p = false := by
    rw [bt_and, bt_not _ (by omega), bt_bit (by omega) (by omega)]; simp
  have e := bc_set_eq hp c
  have s : ∀ k, k < 12 → bt ((x &&& (jk_bit p ^^^ (-1))) ||| jk_bit p) k = bt x k := fun k hk => by
    rw [bt_set _ hp hk, bt_and, bt_not _ (by omega), bt_bit (by omega) (by omega)]
    by_cases z : k = p
    · subst z; simp [h]
    · simp [z]
  have e2 : bc ((x &&& (jk_bit p ^^^ (-1))) ||| jk_bit p) = bc x := List.countP_congr fun k hk => by rw [s k (List.mem_range.mp hk)]
  omega
/-- how many are left after a move that takes away -/
theorem jn_size {f : jF} (B : jf_B f) {k : Int32} {j : Nat} (h3 : jn_3 k) (hj : j < 12) (e : jf_ref f false (k, Int32.ofNat j, 0, 0, 0) = 0) : bc (jf_act f (k, Int32.ofNat j, 0, 0, 0)).2.2 + (if k = 0 then 1 else 2) = bc f.2.2 := by
  have pj : pn (Int32.ofNat j) = j := pn_of hj
  have u : ∀ {q : Nat}, q < 12 → Int32.ofNat j = Int32.ofNat q → j = q := fun hq e => (jk_inj (by omega) (by omega)).mp e
  rcases h3 with rfl | rfl | rfl
  · obtain ⟨q, hq, e1, e2, -⟩ := jf_ref_0 e rfl
    obtain rfl := u hq e1
    show bc (jf_down f (pn (Int32.ofNat j))).2.2 + 1 = _
    rw [pj, jf_down_set]
    exact bc_clr_eq hj e2
  · obtain ⟨q, hq, e1, e2, -, e4⟩ := jf_ref_4 e rfl
    obtain rfl := u hq e1
    obtain ⟨a, ha⟩ := bc_lo (x := f.2.1 j) (by omega)
    obtain ⟨b, hb⟩ := bc_hi (x := f.2.1 j) (by omega)
    obtain ⟨b1, b2, -⟩ := hi_some.mp hb
    show bc (jf_absorb f (pn (Int32.ofNat j))).2.2 + 2 = _
    rw [pj, jf_absorb_set ha hb]
    have nb := B.nb hj b2
    have c1 := bc_clr_eq hj e2
    have c2 := bc_clr_eq (x := f.2.2 &&& (jk_bit j ^^^ (-1))) b1 (by rw [bt_and, bt_not _ (by omega), bt_bit (by omega) (by omega), nb.2.1]; simp; exact nb.2.2.1)
    omega
  · obtain ⟨q, hq, e1, e2, -, e4⟩ := jf_ref_5 e rfl
    obtain rfl := u hq e1
    obtain ⟨a, ha⟩ := bc_lo (x := f.2.1 j) (by omega)
    obtain ⟨a1, a2, -⟩ := lo_some.mp ha
    show bc (jf_split f (pn (Int32.ofNat j))).2.2 + 2 = _
    rw [pj, jf_split_set ha]
    have nb := B.nb hj a2
    have c1 := bc_clr_eq a1 nb.2.1
    have c2 := bc_clr_eq (x := f.2.2 &&& (jk_bit a ^^^ (-1))) hj (by rw [bt_and, bt_not _ (by omega), bt_bit (by omega) (by omega), e2]; simp; exact fun z => nb.2.2.1 z.symm)
    omega
/-- what comes of the shrinking move at a place -/
def dg_n (f : jF) (p : Nat) : Option jF := if bt f.2.2 p = true ∧ jf_ref f false (jn_sk f p, Int32.ofNat p, 0, 0, 0) = 0 then some (jf_act f (jn_sk f p, Int32.ofNat p, 0, 0, 0)) else none
theorem dg_n_W {f g : jF} (W : jf_W f) {p : Nat} (hp : p < 12) (h : dg_n f p = some g) : jf_W g ∧ bc g.2.2 < bc f.2.2 ∧ bc f.2.2 ≤ bc g.2.2 + 2 ∧ bc g.2.2 = bc f.2.2 - (if jn_sk f p = 0 then 1 else 2) := by
  unfold dg_n at h
  split at h
  · rename_i c
    cases h
    have e := jn_size W.1 (jn_sk_3 f p) hp c.2
    refine ⟨jf_W_act W c.2, ?_⟩
    by_cases z : jn_sk f p = 0
    · rw [if_pos z] at e ⊢; omega
    · rw [if_neg z] at e ⊢; omega
  · cases h
-- left, by how many moves, the first of them
abbrev dS := Nat × Nat × Int32
def dg_note (S : dS) (s d : Nat) (a : Int32) : dS := if s < S.1 ∨ (s = S.1 ∧ d < S.2.1) then (s, d, a) else S
/-- over the places from k on -/
def dg_l (F : Nat → jF → dS → dS) (f : jF) : Nat → Nat → dS → dS
  | 0, _, S => S
  | m + 1, k, S => dg_l F f m (k + 1) (match dg_n f k with
    | some g => F k g S
    | none => S)
def dg_b (d : Nat) (a : Int32) (p : Nat) : Int32 := if d = 0 then Int32.ofNat p else a
/-- the reference: all rows of moves -/
def dg_t : Nat → Nat → Int32 → jF → dS → dS
  | 0, d, a, f, S => dg_note S (bc f.2.2) d a
  | m + 1, d, a, f, S => dg_l (fun p g S => dg_t m (d + 1) (dg_b d a p) g S) f 12 0 (dg_note S (bc f.2.2) d a)
/-- the class: what can't leave fewer, nor as many sooner, is not looked at -/
def dg_c : Nat → Nat → Int32 → jF → dS → dS
  | 0, _, _, _, S => S
  | m + 1, d, a, f, S => if S.1 + 2 * (m + 1) ≤ bc f.2.2 then S else dg_l (fun p g S => dg_c m (d + 1) (dg_b d a p) g (dg_note S (bc g.2.2) (d + 1) (dg_b d a p))) f 12 0 S
theorem dg_l_inv {F : Nat → jF → dS → dS} {f : jF} {I : dS → Prop} (h : ∀ p g S, p < 12 → dg_n f p = some g → I S → I (F p g S)) : ∀ (m k : Nat) (S : dS), k + m = 12 → I S → I (dg_l F f m k S)
  | 0, _, _, _, i => i
  | m + 1, k, S, e, i => by
    unfold dg_l
    refine dg_l_inv h m (k + 1) _ (by omega) ?_
    cases q : dg_n f k with
    | some g => exact h k g S (by omega) q i
    | none => exact i
theorem dg_l_congr {F G : Nat → jF → dS → dS} {f : jF} {I : dS → Prop} (h : ∀ p g S, p < 12 → dg_n f p = some g → I S → I (G p g S) ∧ F p g S = G p g S) : ∀ (m k : Nat) (S : dS), k + m = 12 → I S → dg_l F f m k S = dg_l G f m k S
  | 0, _, _, _, _ => rfl
  | m + 1, k, S, e, i => by
    unfold dg_l
    cases q : dg_n f k with
    | some g =>
      obtain ⟨a, b⟩ := h k g S (by omega) q i
      show dg_l F f m (k + 1) (F k g S) = dg_l G f m (k + 1) (G k g S)
      rw [b]
      exact dg_l_congr h m (k + 1) _ (by omega) a
    | none => exact dg_l_congr h m (k + 1) _ (by omega) i
theorem dg_note_moves {S : dS} {s d n : Nat} {a : Int32} (h : S.2.1 ≤ n) (hd : d ≤ n) : (dg_note S s d a).2.1 ≤ n := by
  unfold dg_note
  split
  · exact hd
  · exact h
theorem dg_c_moves : ∀ (m d : Nat) (a : Int32) (f : jF) (S : dS), S.2.1 ≤ d + m → (dg_c m d a f S).2.1 ≤ d + m
  | 0, _, _, _, _, h => h
  | m + 1, d, a, f, S, h => by
    unfold dg_c
    split
    · exact h
    · refine dg_l_inv (I := fun S => S.2.1 ≤ d + (m + 1)) (fun p g S _ _ i => ?_) 12 0 S (by omega) h
      have := dg_c_moves m (d + 1) (dg_b d a p) g (dg_note S (bc g.2.2) (d + 1) (dg_b d a p)) (by have := dg_note_moves (s := bc g.2.2) (a := dg_b d a p) i (show d + 1 ≤ d + (m + 1) by omega); omega)
      omega
/-- where nothing can come of it, nothing does -/
theorem dg_t_none : ∀ (m d : Nat) (a : Int32) (f : jF) (S : dS), jf_W f → S.1 + 2 * m ≤ bc f.2.2 → S.2.1 ≤ d + m → (m = 0 → S.2.1 ≤ d) → dg_t m d a f S = S
  | 0, d, a, f, S, W, h, h1, h2 => by
    show dg_note S _ _ _ = S
    unfold dg_note
    have := h2 rfl
    rw [if_neg (by omega)]
  | m + 1, d, a, f, S, W, h, h1, _ => by
    show dg_l _ f 12 0 (dg_note S _ _ _) = S
    have e : dg_note S (bc f.2.2) d a = S := by unfold dg_note; rw [if_neg (by omega)]
    rw [e]
    refine dg_l_inv (I := fun T => T = S) (fun p g T hp q i => ?_) 12 0 S (by omega) rfl
    subst i
    obtain ⟨W2, l1, l2, -⟩ := dg_n_W W hp q
    exact dg_t_none m (d + 1) (dg_b d a p) g T W2 (by omega) (by omega) (fun _ => by omega)
theorem dg_tc : ∀ (m d : Nat) (a : Int32) (f : jF) (S : dS), jf_W f → S.2.1 ≤ d + m → dg_t m d a f S = dg_c m d a f (dg_note S (bc f.2.2) d a)
  | 0, d, a, f, S, _, _ => rfl
  | m + 1, d, a, f, S, W, h => by
    have hn := dg_note_moves (S := S) (s := bc f.2.2) (d := d) (a := a) h (by omega)
    show dg_l _ f 12 0 (dg_note S (bc f.2.2) d a) = _
    generalize dg_note S (bc f.2.2) d a = T at *
    unfold dg_c
    by_cases c : T.1 + 2 * (m + 1) ≤ bc f.2.2
    · rw [if_pos c]
      refine dg_l_inv (I := fun U => U = T) (fun p g U hp q i => ?_) 12 0 T (by omega) rfl
      subst i
      obtain ⟨W2, l1, l2, -⟩ := dg_n_W W hp q
      exact dg_t_none m (d + 1) (dg_b d a p) g U W2 (by omega) (by omega) (fun _ => by omega)
    · rw [if_neg c]
      refine dg_l_congr (I := fun U => U.2.1 ≤ d + (m + 1)) (fun p g U hp q i => ?_) 12 0 T (by omega) hn
      obtain ⟨W2, l1, l2, -⟩ := dg_n_W W hp q
      refine ⟨?_, dg_tc m (d + 1) (dg_b d a p) g U W2 (by omega)⟩
      have := dg_c_moves m (d + 1) (dg_b d a p) g (dg_note U (bc g.2.2) (d + 1) (dg_b d a p)) (by have := dg_note_moves (s := bc g.2.2) (a := dg_b d a p) i (show d + 1 ≤ d + (m + 1) by omega); omega)
      omega
/-- what both find -/
def dg (f : jF) (n : Nat) : dS := dg_c n 0 (-1) f (bc f.2.2, 0, -1)
theorem dg_ref {f : jF} (W : jf_W f) (n : Nat) : dg_t n 0 (-1) f (13, 9, -1) = dg f n := by
  have l := bc_le f.2.2
  have e : ∀ m, dg_t m 0 (-1) f (13, 9, -1) = dg_t m 0 (-1) f (bc f.2.2, 0, -1) := fun m => by
    have n1 : dg_note (13, 9, -1) (bc f.2.2) 0 (-1) = (bc f.2.2, 0, -1) := by unfold dg_note; rw [if_pos (Or.inl (by show bc f.2.2 < 13; omega))]
    have n2 : dg_note (bc f.2.2, 0, -1) (bc f.2.2) 0 (-1) = (bc f.2.2, 0, -1) := by unfold dg_note; split <;> rfl
    cases m with
    | zero => show dg_note _ _ _ _ = dg_note _ _ _ _; rw [n1, n2]
    | succ m => show dg_l _ f 12 0 (dg_note _ _ _ _) = dg_l _ f 12 0 (dg_note _ _ _ _); rw [n1, n2]
  rw [e, dg_tc n 0 (-1) f _ W (by show 0 ≤ _; omega)]
  unfold dg
  congr 1
  unfold dg_note
  split <;> rfl
