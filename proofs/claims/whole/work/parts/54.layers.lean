/-! What is reached from a vertex: layers; trees -/
theorem countP_eq_imp {p q : Nat → Bool} : ∀ {l : List Nat}, (∀ x ∈ l, p x = true → q x = true) → l.countP p = l.countP q → ∀ x ∈ l, p x = q x
  | [], _, _, x, hx => by cases hx
  | a :: l, h, e, x, hx => by
    have m : l.countP p ≤ l.countP q := List.countP_mono_left fun x hx => h x (List.mem_cons_of_mem a hx)
    rw [List.countP_cons, List.countP_cons] at e
    have ha := h a List.mem_cons_self
    have e1 : p a = q a := by
      cases u : p a <;> cases v : q a
      · rfl
      · rw [u, v] at e; simp at e; omega
      · rw [ha u] at v; cases v
      · rfl
    rw [e1] at e
    rcases List.mem_cons.mp hx with rfl | hx
    · exact e1
    · exact countP_eq_imp (fun x hx => h x (List.mem_cons_of_mem a hx)) (by omega) x hx
theorem bc_mono {x y : Int32} (h : ∀ k, k < 12 → bt x k = true → bt y k = true) : bc x ≤ bc y := List.countP_mono_left fun k hk => h k (List.mem_range.mp hk)
theorem bc_eq {x y : Int32} (hx : S12 x) (hy : S12 y) (h : ∀ k, k < 12 → bt x k = true → bt y k = true) (e : bc x = bc y) : x = y :=
  S12_ext hx hy fun k hk => countP_eq_imp (l := List.range 12) (fun j hj => h j (List.mem_range.mp hj)) e k (List.mem_range.mpr hk)
theorem bc_pos {x : Int32} {k : Nat} (hk : k < 12) (h : bt x k = true) : 0 < bc x := List.countP_pos_iff.mpr ⟨k, List.mem_range.mpr hk, h⟩
section
variable {f : jF}
def jt_acc (f : jF) (S : Int32) : Nat → Int32
  | 0 => S
  | n + 1 => if bt S n = true then jt_acc f S n ||| f.2.1 n else jt_acc f S n
def jt_L (f : jF) (p : Nat) : Nat → Int32
  | 0 => jk_bit p
  | k + 1 => jt_acc f (jt_L f p k) 12
/-- the tree of a vertex -/
def jt_T (f : jF) (p : Nat) : Int32 := jt_L f p 12
theorem jt_acc_bt (f : jF) (S : Int32) (y : Nat) : ∀ n, bt (jt_acc f S n) y = true ↔ bt S y = true ∨ ∃ x, x < n ∧ bt S x = true ∧ bt (f.2.1 x) y = true
  | 0 => ⟨Or.inl, fun h => h.resolve_right fun ⟨x, hx, _⟩ => by omega⟩
  | n + 1 => by
    unfold jt_acc
    split
    · rename_i hb
      rw [bt_or, Bool.or_eq_true, jt_acc_bt f S y n]
      constructor
      · rintro ((h | ⟨x, h1, h2, h3⟩) | h)
        · exact Or.inl h
        · exact Or.inr ⟨x, by omega, h2, h3⟩
        · exact Or.inr ⟨n, by omega, hb, h⟩
      · rintro (h | ⟨x, h1, h2, h3⟩)
        · exact Or.inl (Or.inl h)
        · by_cases q : x = n
          · subst q; exact Or.inr h3
          · exact Or.inl (Or.inr ⟨x, by omega, h2, h3⟩)
    · rename_i hb
      rw [jt_acc_bt f S y n]
      constructor
      · rintro (h | ⟨x, h1, h2, h3⟩)
        · exact Or.inl h
        · exact Or.inr ⟨x, by omega, h2, h3⟩
      · rintro (h | ⟨x, h1, h2, h3⟩)
        · exact Or.inl h
        · by_cases q : x = n
          · subst q; exact absurd h2 hb
          · exact Or.inr ⟨x, by omega, h2, h3⟩
theorem jt_L_succ (f : jF) (p k y : Nat) : bt (jt_L f p (k + 1)) y = true ↔ bt (jt_L f p k) y = true ∨ ∃ x, x < 12 ∧ bt (jt_L f p k) x = true ∧ bt (f.2.1 x) y = true := jt_acc_bt f (jt_L f p k) y 12
theorem jt_L_S (hn : ∀ k, k < 12 → S12 (f.2.1 k)) {p : Nat} (hp : p < 12) : ∀ k, S12 (jt_L f p k)
  | 0 => S12_bit hp
  | k + 1 => fun y hy => by
    cases h : bt (jt_L f p (k + 1)) y
    · rfl
    · rcases (jt_L_succ f p k y).mp h with h | ⟨x, h1, h2, h3⟩
      · rw [jt_L_S hn hp k y hy] at h; cases h
      · rw [hn x h1 y hy] at h3; cases h3
theorem jt_L_mono (f : jF) (p : Nat) {k y : Nat} (h : bt (jt_L f p k) y = true) : ∀ j, bt (jt_L f p (k + j)) y = true
  | 0 => h
  | j + 1 => (jt_L_succ f p (k + j) y).mpr (Or.inl (jt_L_mono f p h j))
theorem jt_L_le (f : jF) (p : Nat) {k j y : Nat} (hk : k ≤ j) (h : bt (jt_L f p k) y = true) : bt (jt_L f p j) y = true := by
  have := jt_L_mono f p h (j - k)
  rwa [show k + (j - k) = j by omega] at this
theorem jt_L_stop {p k : Nat} (e : jt_L f p (k + 1) = jt_L f p k) : ∀ j, jt_L f p (k + j) = jt_L f p k
  | 0 => rfl
  | j + 1 => by
    show jt_acc f (jt_L f p (k + j)) 12 = _
    rw [jt_L_stop e j]; exact e
theorem jt_L_bc (hn : ∀ k, k < 12 → S12 (f.2.1 k)) {p : Nat} (hp : p < 12) : ∀ k, (∀ j, j < k → jt_L f p (j + 1) ≠ jt_L f p j) → k + 1 ≤ bc (jt_L f p k)
  | 0, _ => bc_pos (x := jk_bit p) hp (by rw [bt_bit (by omega) (by omega)]; simp)
  | k + 1, h => by
    have i := jt_L_bc hn hp k (fun j hj => h j (by omega))
    have m : bc (jt_L f p k) ≤ bc (jt_L f p (k + 1)) := bc_mono fun y _ hy => (jt_L_succ f p k y).mpr (Or.inl hy)
    have ne : bc (jt_L f p k) ≠ bc (jt_L f p (k + 1)) := fun e => h k (by omega) (bc_eq (jt_L_S hn hp k) (jt_L_S hn hp (k + 1)) (fun y _ hy => (jt_L_succ f p k y).mpr (Or.inl hy)) e).symm
    omega
/-- how far the farthest is -/
theorem jt_ecc_ex (hn : ∀ k, k < 12 → S12 (f.2.1 k)) {p : Nat} (hp : p < 12) : ∃ k, k < 12 ∧ jt_L f p (k + 1) = jt_L f p k ∧ ∀ j, j < k → jt_L f p (j + 1) ≠ jt_L f p j := by
  have : ∃ k, k < 12 ∧ jt_L f p (k + 1) = jt_L f p k := by
    apply Classical.byContradiction
    intro q
    have := jt_L_bc hn hp 12 (fun j hj e => q ⟨j, hj, e⟩)
    have := bc_le (jt_L f p 12)
    omega
  obtain ⟨k, hk, e⟩ := this
  induction k using Nat.strongRecOn with
  | ind k ih =>
    by_cases q : ∃ j, j < k ∧ jt_L f p (j + 1) = jt_L f p j
    · obtain ⟨j, hj, e'⟩ := q
      exact ih j hj (by omega) e'
    · exact ⟨k, hk, e, fun j hj e' => q ⟨j, hj, e'⟩⟩
theorem jt_T_stop (hn : ∀ k, k < 12 → S12 (f.2.1 k)) {p k : Nat} (hk : k ≤ 12) (e : jt_L f p (k + 1) = jt_L f p k) : jt_T f p = jt_L f p k := by
  unfold jt_T
  have := jt_L_stop e (12 - k)
  rwa [show k + (12 - k) = 12 by omega] at this
theorem jt_T_step (hn : ∀ k, k < 12 → S12 (f.2.1 k)) {p : Nat} (hp : p < 12) : jt_acc f (jt_T f p) 12 = jt_T f p := by
  obtain ⟨k, hk, e, -⟩ := jt_ecc_ex hn hp
  rw [jt_T_stop hn (by omega) e]; exact e
theorem jt_T_S (hn : ∀ k, k < 12 → S12 (f.2.1 k)) {p : Nat} (hp : p < 12) : S12 (jt_T f p) := jt_L_S hn hp 12
theorem jt_T_self (f : jF) {p : Nat} (hp : p < 12) : bt (jt_T f p) p = true := jt_L_le f p (k := 0) (by omega) (by show bt (jk_bit p) p = true; rw [bt_bit (by omega) (by omega)]; simp)
theorem jt_T_closed (hn : ∀ k, k < 12 → S12 (f.2.1 k)) {p x y : Nat} (hp : p < 12) (hx : bt (jt_T f p) x = true) (hx12 : x < 12) (h : bt (f.2.1 x) y = true) : bt (jt_T f p) y = true := by
  rw [← jt_T_step hn hp]
  exact (jt_acc_bt f _ y 12).mpr (Or.inr ⟨x, hx12, hx, h⟩)
theorem jt_L_min {C : Nat → Prop} {p : Nat} (hp : p < 12) (h0 : C p) (hC : ∀ x y, x < 12 → C x → bt (f.2.1 x) y = true → C y) : ∀ k y, bt (jt_L f p k) y = true → C y
  | 0, y, h => by
    by_cases hy : y < 32
    · have h : bt (jk_bit p) y = true := h
      rw [bt_bit (by omega) hy] at h
      simp at h; rw [h]; exact h0
    · have h : bt (jk_bit p) y = true := h
      rw [bt_big _ (by omega)] at h; cases h
  | k + 1, y, h => by
    rcases (jt_L_succ f p k y).mp h with h | ⟨x, h1, h2, h3⟩
    · exact jt_L_min hp h0 hC k y h
    · exact hC x y h1 (jt_L_min hp h0 hC k x h2) h3
theorem jt_T_min {C : Nat → Prop} {p : Nat} (hp : p < 12) (h0 : C p) (hC : ∀ x y, x < 12 → C x → bt (f.2.1 x) y = true → C y) {y : Nat} (h : bt (jt_T f p) y = true) : C y := jt_L_min hp h0 hC 12 y h
/-- a set that has p, is closed and within the tree, is the tree -/
theorem jt_T_uniq (hn : ∀ k, k < 12 → S12 (f.2.1 k)) {S : Int32} (hS : S12 S) {p : Nat} (hp : p < 12) (h0 : bt S p = true) (hC : ∀ x y, x < 12 → bt S x = true → bt (f.2.1 x) y = true → bt S y = true) (hT : ∀ y, bt S y = true → bt (jt_T f p) y = true) : S = jt_T f p :=
  S12_ext hS (jt_T_S hn hp) fun k hk => by
    cases a : bt S k
    · cases b : bt (jt_T f p) k
      · rfl
      · have := jt_T_min (C := fun y => bt S y = true) hp h0 (fun x y h1 h2 h3 => hC x y h1 h2 h3) b
        rw [a] at this; cases this
    · rw [hT k a]
theorem jt_T_in (B : jf_B f) {p y : Nat} (hp : p < 12) (sp : bt f.2.2 p = true) (h : bt (jt_T f p) y = true) : y < 12 ∧ bt f.2.2 y = true :=
  ⟨(by
    apply Classical.byContradiction; intro q
    rw [jt_T_S B.n hp y (by omega)] at h; cases h),
   jt_T_min (C := fun y => bt f.2.2 y = true) hp sp (fun x y h1 h2 h3 => (B.nb h1 h3).2.1) h⟩
theorem jt_T_sym (B : jf_B f) {p q : Nat} (hp : p < 12) (h : bt (jt_T f p) q = true) : jt_T f q = jt_T f p := by
  have hq : q < 12 := by
    apply Classical.byContradiction; intro z
    rw [jt_T_S B.n hp q (by omega)] at h; cases h
  have sub : ∀ y, bt (jt_T f q) y = true → bt (jt_T f p) y = true := fun y hy => jt_T_min (C := fun y => bt (jt_T f p) y = true) hq h (fun x y h1 h2 h3 => jt_T_closed B.n hp h2 h1 h3) hy
  have hpq : bt (jt_T f q) p = true := by
    cases e : bt (jt_T f q) p
    · have := jt_T_min (C := fun y => bt (jt_T f q) y = false) hp e (fun x y h1 h2 h3 => by
        cases z : bt (jt_T f q) y
        · rfl
        · obtain ⟨y12, -, -, -⟩ := B.nb h1 h3
          have := jt_T_closed B.n hq z y12 (by rw [B.sym y12 h1]; exact h3)
          rw [this] at h2; cases h2) h
      rw [jt_T_self f hq] at this; cases this
    · rfl
  exact jt_T_uniq B.n (jt_T_S B.n hq) hp hpq (fun x y h1 h2 h3 => jt_T_closed B.n hq h2 h1 h3) sub
/-- a tree knows which edges are within -/
theorem jt_T_edge (B : jf_B f) {p x y : Nat} (hp : p < 12) (hx : x < 12) (hy : y < 12) (h : bt (f.2.1 x) y = true) : bt (jt_T f p) x = bt (jt_T f p) y := by
  cases a : bt (jt_T f p) x <;> cases b : bt (jt_T f p) y
  · rfl
  · have := jt_T_closed B.n hp b hy (by rw [B.sym hy hx]; exact h)
    rw [a] at this; cases this
  · have := jt_T_closed B.n hp a hx h
    rw [b] at this; cases this
  · rfl
end
-- the reference's treeOf
def jt_gs (f : jF) (S : Int32) : Nat → Int32
  | 0 => S
  | n + 1 => if bt (jt_gs f S n) n = true then jt_gs f S n ||| f.2.1 n else jt_gs f S n
section
variable {rc : Nat → Nat × (Nat → Int32)} {h : jxH} {b : Nat} {f : jF}
theorem jt_gs_sub (f : jF) (S : Int32) {y : Nat} (h : bt S y = true) : ∀ n, bt (jt_gs f S n) y = true
  | 0 => h
  | n + 1 => by
    unfold jt_gs
    split
    · rw [bt_or, jt_gs_sub f S h n]; rfl
    · exact jt_gs_sub f S h n
theorem jt_gs_in {S : Int32} {C : Nat → Prop} (hS : ∀ y, bt S y = true → C y) (hC : ∀ x y, x < 12 → C x → bt (f.2.1 x) y = true → C y) : ∀ n, n ≤ 12 → ∀ y, bt (jt_gs f S n) y = true → C y
  | 0, _, y, h => hS y h
  | n + 1, hn, y, h => by
    unfold jt_gs at h
    split at h
    · rename_i hb
      rw [bt_or, Bool.or_eq_true] at h
      rcases h with h | h
      · exact jt_gs_in hS hC n (by omega) y h
      · exact hC n y (by omega) (jt_gs_in hS hC n (by omega) n hb) h
    · exact jt_gs_in hS hC n (by omega) y h
theorem jt_gs_keep (f : jF) (S : Int32) {y : Nat} : ∀ {n : Nat} (m : Nat), bt (jt_gs f S n) y = true → bt (jt_gs f S (n + m)) y = true
  | n, 0, h => h
  | n, m + 1, h => by
    show bt (jt_gs f S ((n + m) + 1)) y = true
    unfold jt_gs
    split
    · rw [bt_or, jt_gs_keep f S m h]; rfl
    · exact jt_gs_keep f S m h
theorem jt_gs_closed {S : Int32} (e : jt_gs f S 12 = S) {x y : Nat} (hx : x < 12) (h1 : bt S x = true) (h2 : bt (f.2.1 x) y = true) : bt S y = true := by
  have h3 : bt (jt_gs f S (x + 1)) y = true := by
    unfold jt_gs
    rw [if_pos (jt_gs_sub f S h1 x), bt_or, h2, Bool.or_true]
  have := jt_gs_keep f S (n := x + 1) (11 - x) h3
  rw [show x + 1 + (11 - x) = 12 by omega, e] at this
  exact this
theorem rf_gs_l (H : ro_at h b f) (S w : Int32) (d : Nat) : ∀ (m k : Nat), k + m = 12 → jb_85 rc (d + 1) 13 [(0, .ref b), (2, .int (jt_gs f S k)), (3, .int w), (4, .int (Int32.ofNat k))] [] h = jb_85 rc (d + 1) 6 [(0, .ref b), (2, .int (jt_gs f S 12)), (3, .int w)] [] h
  | 0, k, e => by
    obtain rfl : k = 12 := by omega
    rw [je_85_13, if_pos (by decide)]
  | m + 1, k, e => by
    have hk : k < 12 := by omega
    rw [je_85_13, if_neg (jk_n12 hk), rf_has _ _ (by omega), jk_cI, jk_if0, jk_succ, Int32.or_zero]
    have i := rf_gs_l H S w d m (k + 1) (by omega)
    rw [show jt_gs f S (k + 1) = if bt (jt_gs f S k) k = true then jt_gs f S k ||| f.2.1 k else jt_gs f S k from rfl] at i
    by_cases hb : bt (jt_gs f S k) k = true
    · rw [if_pos hb, ro_n H hk, jk_bs]
      rw [if_pos hb] at i
      exact i
    · rw [if_neg hb]
      rw [if_neg hb] at i
      exact i
theorem rf_treeOf_l (H : ro_at h b f) (hn : ∀ k, k < 12 → S12 (f.2.1 k)) {p : Nat} (hp : p < 12) (d : Nat) : ∀ (m : Nat) (S w : Int32), 12 - bc S ≤ m → S12 S → bt S p = true → (∀ y, bt S y = true → bt (jt_T f p) y = true) → (w = S → jt_gs f S 12 = S) → jb_85 rc (d + 1) 6 [(0, .ref b), (2, .int S), (3, .int w)] [] h = some (some (.int (jt_T f p)), h)
  | m, S, w, hm, hS, hp1, hT, hw => by
    rw [je_85_6]
    by_cases e : w = S
    · rw [if_pos e, jt_T_uniq hn hS hp hp1 (fun x y h1 h2 h3 => jt_gs_closed (hw e) h1 h2 h3) hT]
    · rw [if_neg e]
      refine (rf_gs_l (rc := rc) H S S d 12 0 (by omega)).trans ?_
      have sub := fun y (hy : bt S y = true) => jt_gs_sub f S hy 12
      have hS' : S12 (jt_gs f S 12) := fun y hy => by
        cases q : bt (jt_gs f S 12) y
        · rfl
        · have := jt_gs_in (C := fun y => y < 12) (S := S) (f := f) (fun y h => by
            apply Classical.byContradiction; intro z
            rw [hS y (by omega)] at h; cases h) (fun x y h1 _ h3 => by
            apply Classical.byContradiction; intro z
            rw [hn x h1 y (by omega)] at h3; cases h3) 12 (Nat.le_refl _) y q
          omega
      by_cases e2 : jt_gs f S 12 = S
      · rw [e2, je_85_6, if_pos rfl, jt_T_uniq hn hS hp hp1 (fun x y h1 h2 h3 => jt_gs_closed e2 h1 h2 h3) hT]
      · have lt : bc S < bc (jt_gs f S 12) := by
          have m1 : bc S ≤ bc (jt_gs f S 12) := bc_mono fun y _ hy => sub y hy
          have m2 : bc S ≠ bc (jt_gs f S 12) := fun q => e2 (bc_eq hS hS' (fun y _ hy => sub y hy) q).symm
          omega
        have b1 := bc_le (jt_gs f S 12)
        match m with
        | 0 => omega
        | m + 1 =>
          exact rf_treeOf_l H hn hp d m (jt_gs f S 12) S (by omega) hS' (sub p hp1) (fun y hy => jt_gs_in (C := fun y => bt (jt_T f p) y = true) hT (fun x y h1 h2 h3 => jt_T_closed hn hp h2 h1 h3) 12 (Nat.le_refl _) y hy) (fun q => absurd q.symm e2)
/-- treeOf() -/
theorem rf_treeOf (H : ro_at h b f) (hn : ∀ k, k < 12 → S12 (f.2.1 k)) {p : Nat} (hp : p < 12) (d : Nat) : jx_C rc (d + 2) 85 [.ref b, .int (Int32.ofNat p)] h = some (some (.int (jt_T f p)), h) := by
  rw [je_85]
  have b0 : bt (jk_bit p) p = true := by rw [bt_bit (by omega) (by omega)]; simp
  refine rf_treeOf_l (rc := rc) H hn hp d 12 (jk_bit p) 0 (by omega) (S12_bit hp) b0 (fun y hy => jt_L_le f p (k := 0) (by omega) hy) (fun q => ?_)
  rw [← q, bt_0] at b0; cases b0
end
