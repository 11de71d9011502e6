/-! rest(): every planned move takes a place away -/
theorem bc_clr_lt {x : Int32} {p : Nat} (hp : p < 12) (h : bt x p = true) : bc (x &&& (jk_bit p ^^^ (-1))) < bc x := by
  have le : bc (x &&& (jk_bit p ^^^ (-1))) ≤ bc x := bc_mono fun k hk q => by
    rw [bt_clr x hp hk, Bool.and_eq_true] at q; exact q.1
  apply Classical.byContradiction
  intro z
  have e : bc (x &&& (jk_bit p ^^^ (-1))) = bc x := by omega
  have := countP_eq_imp (l := List.range 12) (p := bt (x &&& (jk_bit p ^^^ (-1)))) (q := bt x) (fun k hk q => by
    rw [bt_clr x hp (List.mem_range.mp hk), Bool.and_eq_true] at q; exact q.1) e p (List.mem_range.mpr hp)
  rw [bt_clr x hp hp, h] at this
  simp at this
theorem bc_clr_le (x : Int32) {p : Nat} (hp : p < 12) : bc (x &&& (jk_bit p ^^^ (-1))) ≤ bc x := bc_mono fun k hk q => by
  rw [bt_clr x hp hk, Bool.and_eq_true] at q; exact q.1
theorem jf_joins_set (f : jF) (a : Nat) (s : Int32) : ∀ n, (jf_joins f a s n).2.2 = f.2.2
  | 0 => rfl
  | n + 1 => by
    unfold jf_joins
    split
    · show (jf_joins f a s n).2.2 = _
      exact jf_joins_set f a s n
    · exact jf_joins_set f a s n
theorem jf_down_set (f : jF) (p : Nat) : (jf_down f p).2.2 = f.2.2 &&& (jk_bit p ^^^ (-1)) := by
  unfold jf_down
  split
  · split
    · rfl
    · rfl
  · rfl
theorem jf_absorb_set {f : jF} {p a b : Nat} (ha : lo (f.2.1 p) = some a) (hb : hi (f.2.1 p) = some b) : (jf_absorb f p).2.2 = f.2.2 &&& (jk_bit p ^^^ (-1)) &&& (jk_bit b ^^^ (-1)) := by
  unfold jf_absorb
  rw [ha, hb]
  exact jf_joins_set _ _ _ _
theorem jf_split_set {f : jF} {p a : Nat} (ha : lo (f.2.1 p) = some a) : (jf_split f p).2.2 = f.2.2 &&& (jk_bit a ^^^ (-1)) &&& (jk_bit p ^^^ (-1)) := by
  unfold jf_split
  rw [ha]
  rfl
theorem jf_B.in' {f : jF} (B : jf_B f) {p a : Nat} (hp : p < 12) (ha : a < 12) (h : bt (f.2.1 p) a = true) : bt f.2.2 a = true := by
  cases q : bt f.2.2 a
  · have := (B.abs ha q).2
    rw [B.sym hp ha, this, bt_0] at h; cases h
  · rfl
/-- every planned move takes a place away -/
theorem jn_less {f : jF} (B : jf_B f) {k : Int32} {j : Nat} (h3 : jn_3 k) (hj : j < 12) (e : jf_ref f false (k, Int32.ofNat j, 0, 0, 0) = 0) : bc (jf_act f (k, Int32.ofNat j, 0, 0, 0)).2.2 < bc f.2.2 := by
  have pj : pn (Int32.ofNat j) = j := pn_of hj
  have u : ∀ {q : Nat}, q < 12 → Int32.ofNat j = Int32.ofNat q → j = q := fun hq e => (jk_inj (by omega) (by omega)).mp e
  rcases h3 with rfl | rfl | rfl
  · obtain ⟨q, hq, e1, e2, -⟩ := jf_ref_0 e rfl
    obtain rfl := u hq e1
    show bc (jf_down f (pn (Int32.ofNat j))).2.2 < _
    rw [pj, jf_down_set]
    exact bc_clr_lt hj e2
  · obtain ⟨q, hq, e1, e2, -, e4⟩ := jf_ref_4 e rfl
    obtain rfl := u hq e1
    obtain ⟨a, ha⟩ := bc_lo (x := f.2.1 j) (by omega)
    obtain ⟨b, hb⟩ := bc_hi (x := f.2.1 j) (by omega)
    show bc (jf_absorb f (pn (Int32.ofNat j))).2.2 < _
    rw [pj, jf_absorb_set ha hb]
    exact Nat.lt_of_le_of_lt (bc_clr_le _ (hi_some.mp hb).1) (bc_clr_lt hj e2)
  · obtain ⟨q, hq, e1, e2, -, e4⟩ := jf_ref_5 e rfl
    obtain rfl := u hq e1
    obtain ⟨a, ha⟩ := bc_lo (x := f.2.1 j) (by omega)
    obtain ⟨a1, a2, -⟩ := lo_some.mp ha
    show bc (jf_split f (pn (Int32.ofNat j))).2.2 < _
    rw [pj, jf_split_set ha]
    exact Nat.lt_of_le_of_lt (bc_clr_le _ hj) (bc_clr_lt a1 (B.in' hj a1 a2))
/-- in thought: a worker's moves to the end -/
def jw_end : Nat → jF → Int32 → Nat → Nat × jF
  | 0, f, _, _ => (0, f)
  | m + 1, f, kind, s => match jn_plan f kind s with
    | some (k, j) => ((jw_end m (jf_act f (k, Int32.ofNat j, 0, 0, 0)) kind s).1 + 1, (jw_end m (jf_act f (k, Int32.ofNat j, 0, 0, 0)) kind s).2)
    | none => (0, f)
/-- so many moves as there are places are enough -/
theorem jw_end_stop {kind : Int32} {s : Nat} : ∀ (m : Nat) (f : jF), jf_W f → bc f.2.2 ≤ m → jn_plan (jw_end m f kind s).2 kind s = none
  | 0, f, W, h => by
    cases hp : jn_plan f kind s with
    | none => exact hp
    | some x =>
      obtain ⟨k, j⟩ := x
      obtain ⟨h1, h2, h3⟩ := jn_W_plan f kind s k j hp
      have := jn_less W.1 h1 h2 h3
      omega
  | m + 1, f, W, h => by
    cases hp : jn_plan f kind s with
    | none =>
      rw [show jw_end (m + 1) f kind s = (0, f) by unfold jw_end; rw [hp]]
      exact hp
    | some x =>
      obtain ⟨k, j⟩ := x
      obtain ⟨h1, h2, h3⟩ := jn_W_plan f kind s k j hp
      have l := jn_less W.1 h1 h2 h3
      have e : (jw_end (m + 1) f kind s).2 = (jw_end m (jf_act f (k, Int32.ofNat j, 0, 0, 0)) kind s).2 := by
        conv => lhs; unfold jw_end
        rw [hp]
      rw [e]
      exact jw_end_stop m _ (jf_W_act W h3) (by omega)
theorem jw_end_W {kind : Int32} {s : Nat} : ∀ (m : Nat) (f : jF), jf_W f → jf_W (jw_end m f kind s).2
  | 0, _, W => W
  | m + 1, f, W => by
    unfold jw_end
    split
    · rename_i k j hp
      exact jw_end_W m _ (jf_W_act W (jn_W_plan f kind s k j hp).2.2)
    · exact W
