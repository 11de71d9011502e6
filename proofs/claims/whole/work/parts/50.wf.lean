/-! What always holds of a forest is kept by moves and by hand -/
def jf_e (f : jF) : Nat → Nat → Bool := fun x y => bt (f.2.1 x) y
def jf_s (f : jF) : Nat → Bool := fun x => bt f.2.2 x
def jf_W (f : jF) : Prop := jf_B f ∧ AC (jf_e f) (jf_s f)
section
variable {f g : jF}
theorem jp_wt_iff {w : Int32} : jp_wt w = true ↔ -30 ≤ w.toInt ∧ w.toInt ≤ 30 := by
  unfold jp_wt
  simp only [Int32.lt_iff_toInt_lt, show (-30 : Int32).toInt = -30 from rfl, show (30 : Int32).toInt = 30 from rfl]
  split
  · simp; omega
  · split
    · simp; omega
    · simp; omega
theorem jp_wt_0 : jp_wt 0 = true := by decide
theorem jp_wt_neg {w : Int32} (h : jp_wt w = true) : jp_wt (-w) = true := by
  rw [jp_wt_iff] at *
  rw [Int32.toInt_neg, Int.bmod_eq_of_le (by omega) (by omega)]
  omega
theorem jp_wt_pm {v : Int32} (h : v = 1 ∨ v = -1) : jp_wt v = true := by rcases h with rfl | rfl <;> decide
theorem jf_B.esym (B : jf_B f) : ∀ x y, x < 12 → y < 12 → jf_e f x y = jf_e f y x := fun _ _ hx hy => B.sym hx hy
theorem jf_B.eirr (B : jf_B f) : ∀ x, x < 12 → jf_e f x x = false := fun _ hx => B.irr hx
theorem S12_upd {n : Nat → Int32} {p : Nat} {x : Int32} (h : ∀ k, k < 12 → S12 (n k)) (hx : S12 x) : ∀ k, k < 12 → S12 (upd n p x k) := fun k hk => by
  unfold upd; split
  · exact hx
  · exact h k hk
/-- out of bits -/
theorem jf_B_of (B : jf_B f) (hs : S12 g.2.2) (hn : ∀ k, k < 12 → S12 (g.2.1 k)) (hsym : ∀ x y, x < 12 → y < 12 → bt (g.2.1 x) y = bt (g.2.1 y) x) (hirr : ∀ x, x < 12 → bt (g.2.1 x) x = false) (habs : ∀ x, x < 12 → bt g.2.2 x = false → g.1 x = 0 ∧ ∀ y, y < 12 → bt (g.2.1 x) y = false) (hw : ∀ x, x < 12 → jp_wt (g.1 x) = true) : jf_B g :=
  ⟨hs, hn, hsym, hirr, fun x hx h => ⟨(habs x hx h).1, S12_ext (hn x hx) S12_0 fun y hy => by rw [(habs x hx h).2 y hy, bt_0]⟩, hw⟩
theorem jf_B_rem (B : jf_B f) {p : Nat} (hp : p < 12) : jf_B (jf_rem f p) := by
  refine jf_B_of B (S12_and B.s) (S12_upd (fun k hk => S12_and (B.n k hk)) S12_0) (fun x y hx hy => ?_) (fun x hx => ?_) (fun x hx h => ⟨?_, fun y hy => ?_⟩) (fun x hx => ?_)
  · rw [jb_rem _ hp (by omega), jb_rem _ hp (by omega), B.sym hx hy, Bool.and_assoc, Bool.and_comm (!decide (x = p)), Bool.and_assoc]
  · rw [jb_rem _ hp (by omega), B.irr hx]; rfl
  · show upd f.1 p 0 x = 0
    unfold upd
    split
    · rfl
    · rename_i q
      have : bt (f.2.2 &&& (jk_bit p ^^^ (-1))) x = false := h
      rw [bt_clr _ hp hx] at this
      simp [q] at this
      exact (B.abs hx this).1
  · rw [jb_rem _ hp (by omega)]
    have : bt (f.2.2 &&& (jk_bit p ^^^ (-1))) x = false := h
    rw [bt_clr _ hp hx] at this
    by_cases q : x = p
    · simp [q]
    · simp [q] at this
      rw [(B.abs hx this).2, bt_0]; rfl
  · show jp_wt (upd f.1 p 0 x) = true
    unfold upd; split
    · exact jp_wt_0
    · exact B.wt hx
theorem jf_B_setw (B : jf_B f) {p : Nat} (hp : p < 12) (hs : bt f.2.2 p = true) {x : Int32} (hx : jp_wt x = true) : jf_B (jf_setw f p x) := by
  refine ⟨B.s, B.n, fun k j hk hj => B.sym hk hj, fun k hk => B.irr hk, fun k hk h => ⟨?_, (B.abs hk h).2⟩, fun k hk => ?_⟩
  · show upd f.1 p x k = 0
    unfold upd; split
    · rename_i q; rw [q] at h; have h : bt f.2.2 p = false := h; rw [hs] at h; cases h
    · exact (B.abs hk h).1
  · show jp_wt (upd f.1 p x k) = true
    unfold upd; split
    · exact hx
    · exact B.wt hk
theorem jf_B_grow (B : jf_B f) {c : Nat} (hc : lo (f.2.2 ^^^ (-1)) = some c) {x : Int32} (hx : jp_wt x = true) : jf_B (jf_grow f c x) := by
  obtain ⟨c1, c2, -⟩ := lo_not hc
  refine ⟨S12_or B.s (S12_bit c1), B.n, fun k j hk hj => B.sym hk hj, fun k hk => B.irr hk, fun k hk h => ?_, fun k hk => ?_⟩
  · have h : bt (f.2.2 ||| jk_bit c) k = false := h
    rw [bt_set _ c1 hk] at h
    simp at h
    refine ⟨?_, (B.abs hk h.1).2⟩
    show upd f.1 c x k = 0
    rw [upd_ne _ _ h.2]; exact (B.abs hk h.1).1
  · show jp_wt (upd f.1 c x k) = true
    unfold upd; split
    · exact hx
    · exact B.wt hk
theorem jf_B_join (B : jf_B f) {p q : Nat} (hp : p < 12) (hq : q < 12) (hpq : p ≠ q) (sp : bt f.2.2 p = true) (sq : bt f.2.2 q = true) : jf_B (jf_join f p q) := by
  refine jf_B_of B B.s (S12_upd (S12_upd B.n (S12_or (B.n p hp) (S12_bit hq))) (S12_or (S12_upd B.n (S12_or (B.n p hp) (S12_bit hq)) q hq) (S12_bit hp))) (fun x y hx hy => ?_) (fun x hx => ?_) (fun x hx h => ⟨(B.abs hx h).1, fun y hy => ?_⟩) (fun x hx => B.wt hx)
  · rw [jb_join _ hp hq (by omega), jb_join _ hp hq (by omega), B.sym hx hy]; grind
  · rw [jb_join _ hp hq (by omega), B.irr hx]; grind
  · have h : bt f.2.2 x = false := h
    rw [jb_join _ hp hq (by omega), (B.abs hx h).2, bt_0]; grind
theorem jf_B_part (B : jf_B f) {p q : Nat} (hp : p < 12) (hq : q < 12) : jf_B (jf_part f p q) := by
  refine jf_B_of B B.s (S12_upd (S12_upd B.n (S12_and (B.n p hp))) (S12_and (S12_upd B.n (S12_and (B.n p hp)) q hq))) (fun x y hx hy => ?_) (fun x hx => ?_) (fun x hx h => ⟨(B.abs hx h).1, fun y hy => ?_⟩) (fun x hx => B.wt hx)
  · rw [jb_part _ hp hq (by omega), jb_part _ hp hq (by omega), B.sym hx hy]; grind
  · rw [jb_part _ hp hq (by omega), B.irr hx]; grind
  · have h : bt f.2.2 x = false := h
    rw [jb_part _ hp hq (by omega), (B.abs hx h).2, bt_0]; grind
theorem jf_B_joins (B : jf_B f) {p : Nat} (hp : p < 12) (sp : bt f.2.2 p = true) {s : Int32} (hs : ∀ k, k < 12 → bt s k = true → k ≠ p ∧ bt f.2.2 k = true) : ∀ n, n ≤ 12 → jf_B (jf_joins f p s n)
  | 0, _ => B
  | n + 1, h => by
    unfold jf_joins
    have i := jf_B_joins B hp sp hs n (by omega)
    split
    · rename_i hb
      have w := (jw_joins f p s n).2
      obtain ⟨k1, k2⟩ := hs n (by omega) hb
      exact jf_B_join i hp (by omega) (fun q => k1 q.symm) (by rw [w]; exact sp) (by rw [w]; exact k2)
    · exact i
theorem jf_B_parts (B : jf_B f) {p : Nat} (hp : p < 12) (s : Int32) : ∀ n, n ≤ 12 → jf_B (jf_parts f p s n)
  | 0, _ => B
  | n + 1, h => by
    unfold jf_parts
    have i := jf_B_parts B hp s n (by omega)
    split
    · exact jf_B_part i hp (by omega)
    · exact i
theorem jf_B_mirror (B : jf_B f) : jf_B (jf_mirror f) :=
  ⟨B.s, B.n, fun k j hk hj => B.sym hk hj, fun k hk => B.irr hk, fun k hk h => ⟨by show -f.1 k = 0; rw [(B.abs hk h).1]; rfl, (B.abs hk h).2⟩, fun k hk => jp_wt_neg (B.wt hk)⟩
theorem jf_W_rem (W : jf_W f) {p : Nat} (hp : p < 12) : jf_W (jf_rem f p) := by
  refine ⟨jf_B_rem W.1 hp, AC_mono W.2 (fun x hx h => ?_) (fun x y hx hy _ _ h => ?_)⟩
  · have h : bt (f.2.2 &&& (jk_bit p ^^^ (-1))) x = true := h
    rw [bt_clr _ hp hx] at h
    simp at h; exact h.1
  · have h : bt ((jf_rem f p).2.1 x) y = true := h
    rw [jb_rem _ hp (by omega)] at h
    simp at h; exact h.1.1
theorem jf_W_setw (W : jf_W f) {p : Nat} (hp : p < 12) (hs : bt f.2.2 p = true) {x : Int32} (hx : jp_wt x = true) : jf_W (jf_setw f p x) := ⟨jf_B_setw W.1 hp hs hx, W.2⟩
theorem jf_W_part (W : jf_W f) {p q : Nat} (hp : p < 12) (hq : q < 12) : jf_W (jf_part f p q) := by
  refine ⟨jf_B_part W.1 hp hq, AC_mono W.2 (fun x hx h => h) (fun x y hx hy _ _ h => ?_)⟩
  have h : bt ((jf_part f p q).2.1 x) y = true := h
  rw [jb_part _ hp hq (by omega)] at h
  simp at h; exact h.1.1
theorem jf_B.iso (B : jf_B f) {c : Nat} (hc : c < 12) (h : bt f.2.2 c = false) : ∀ y, y < 12 → jf_e f c y = false := fun y hy => by
  show bt (f.2.1 c) y = false
  rw [(B.abs hc h).2, bt_0]
theorem jf_W_grow (W : jf_W f) {c : Nat} (hc : lo (f.2.2 ^^^ (-1)) = some c) {x : Int32} (hx : jp_wt x = true) : jf_W (jf_grow f c x) := by
  obtain ⟨c1, c2, -⟩ := lo_not hc
  refine ⟨jf_B_grow W.1 hc hx, AC_grow (s := jf_s f) c1 W.2 W.1.esym (W.1.iso c1 c2) (fun x hx h => ?_)⟩
  have h : bt (f.2.2 ||| jk_bit c) x = true := h
  rw [bt_set _ c1 hx] at h
  simp at h; exact h.symm
/-- a new one, hung on another one -/
theorem jf_W_hang (W : jf_W f) {c p : Nat} (hc : lo (f.2.2 ^^^ (-1)) = some c) {x : Int32} (hx : jp_wt x = true) (hp : p < 12) (sp : bt f.2.2 p = true) : jf_W (jf_join (jf_grow f c x) c p) := by
  obtain ⟨c1, c2, -⟩ := lo_not hc
  have cp : c ≠ p := fun q => by rw [q, sp] at c2; cases c2
  have hs : ∀ x, x < 12 → jf_s (jf_grow f c 0) x = true → x = c ∨ jf_s f x = true := fun x hx h => by
    have h : bt (f.2.2 ||| jk_bit c) x = true := h
    rw [bt_set _ c1 hx] at h
    simp at h; exact h.symm
  refine ⟨jf_B_join (jf_B_grow W.1 hc hx) c1 hp cp (show bt (f.2.2 ||| jk_bit c) c = true by rw [bt_set _ c1 c1]; simp) (show bt (f.2.2 ||| jk_bit c) p = true by rw [bt_set _ c1 hp, sp]; rfl), ?_⟩
  refine AC_join (e := jf_e f) (p := c) (q := p) c1 hp (jf_W_grow W hc hx).2 (fun x y hx hy h => ?_) (fun U hU u v => (AC_lone c1 W.2 W.1.esym (W.1.iso c1 c2) hs hU u).2 ⟨p, cp.symm, v⟩)
  have h : bt ((jf_join (jf_grow f c _) c p).2.1 x) y = true := h
  rw [jb_join _ c1 hp (by omega)] at h
  simp at h
  rcases h with (h | h) | h
  · exact Or.inl h
  · exact Or.inr (Or.inl h)
  · exact Or.inr (Or.inr h)
/-- an edge from one tree to another one -/
theorem jf_W_tie (W : jf_W f) {p q : Nat} (hp : p < 12) (hq : q < 12) (sp : bt f.2.2 p = true) (sq : bt f.2.2 q = true) {T : Int32} (hT : ∀ x y, x < 12 → y < 12 → bt (f.2.1 x) y = true → bt T x = bt T y) (tp : bt T p = true) (tq : bt T q = false) : jf_W (jf_join f p q) := by
  refine ⟨jf_B_join W.1 hp hq (fun w => by rw [w, tq] at tp; cases tp) sp sq, AC_tie (e := jf_e f) (s := jf_s f) (T := bt T) (p := p) (q := q) hp hq W.2 hT tp tq (fun x y hx hy h => ?_)⟩
  have h : bt ((jf_join f p q).2.1 x) y = true := h
  rw [jb_join _ hp hq (by omega)] at h
  simp at h
  rcases h with (h | h) | h
  · exact Or.inl h
  · exact Or.inr (Or.inl h)
  · exact Or.inr (Or.inr h)
theorem jf_W_mirror (W : jf_W f) : jf_W (jf_mirror f) := ⟨jf_B_mirror W.1, W.2⟩
theorem jw_sub (x e : Int32) : x + -e = x - e := (Int32.sub_eq_add_neg x e).symm
theorem jf_W_down (W : jf_W f) {p : Nat} (hp : p < 12) (sp : bt f.2.2 p = true) (h2 : bc (f.2.1 p) ≤ 2) (hl : jd_light f (f.2.1 p) (f.1 p) = true) : jf_W (jf_down f p) := by
  have B := W.1
  rw [jd_light_all (B.n p hp) h2, jd_all_iff] at hl
  have hl : ∀ j, j < 12 → bt (f.2.1 p) j = true → jp_wt (f.1 j - f.1 p) = true := fun j hj => hl j (by omega) (by omega)
  unfold jf_down
  cases e1 : lo (f.2.1 p) with
  | none => exact jf_W_rem W hp
  | some a =>
    cases e2 : hi (f.2.1 p) with
    | none => exact jf_W_rem W hp
    | some b =>
      obtain ⟨a1, a2, -⟩ := lo_some.mp e1
      obtain ⟨b1, b2, -⟩ := hi_some.mp e2
      obtain ⟨-, na, nea, -⟩ := B.nb hp a2
      obtain ⟨-, nb, neb, -⟩ := B.nb hp b2
      have sa : bt (jf_rem f p).2.2 a = true := by show bt (f.2.2 &&& _) a = true; rw [bt_clr _ hp a1, na]; simp [nea]
      have sb : bt (jf_rem f p).2.2 b = true := by show bt (f.2.2 &&& _) b = true; rw [bt_clr _ hp b1, nb]; simp [neb]
      have wa : jp_wt ((jf_rem f p).1 a + -f.1 p) = true := by
        show jp_wt (upd f.1 p 0 a + -f.1 p) = true
        rw [upd_ne _ _ nea, jw_sub]; exact hl a a1 a2
      simp only []
      by_cases hab : a = b
      · rw [if_pos hab]
        exact jf_W_setw (jf_W_rem W hp) a1 sa wa
      · rw [if_neg hab]
        have wb : jp_wt ((jf_addw (jf_rem f p) a (-f.1 p)).1 b + -f.1 p) = true := by
          show jp_wt (upd (upd f.1 p 0) a _ b + -f.1 p) = true
          rw [upd_ne _ _ (fun q => hab q.symm), upd_ne _ _ neb, jw_sub]; exact hl b b1 b2
        refine ⟨jf_B_join (jf_B_setw (jf_B_setw (jf_B_rem B hp) a1 sa wa) b1 sb wb) a1 b1 hab sa sb, ?_⟩
        refine AC_down (e0 := jf_e f) (s := jf_s f) (p := p) (a := a) (b := b) hp a1 b1 hab W.2 B.esym (B.irr hp) sp (fun x hx h => ?_) a2 b2 (fun x y hx hy _ _ h => ?_)
        · have h : bt (f.2.2 &&& (jk_bit p ^^^ (-1))) x = true := h
          rw [bt_clr _ hp hx] at h
          show bt f.2.2 x = true ∧ x ≠ p
          simpa using h
        · have h : bt ((jf_join (jf_rem f p) a b).2.1 x) y = true := h
          rw [jb_join _ a1 b1 (by omega), jb_rem _ hp (by omega)] at h
          simp at h
          rcases h with (h | h) | h
          · exact Or.inl h.1.1
          · exact Or.inr (Or.inl h)
          · exact Or.inr (Or.inr h)
theorem jf_W_absorb (W : jf_W f) {p : Nat} (hp : p < 12) (sp : bt f.2.2 p = true) (h2 : bc (f.2.1 p) = 2) (hl : jp_wt (jF_w f (jk_on (lo (f.2.1 p))) + jF_w f (jk_on (hi (f.2.1 p)))) = true) : jf_W (jf_absorb f p) := by
  have B := W.1
  obtain ⟨a, e1⟩ := bc_lo (x := f.2.1 p) (by omega)
  obtain ⟨b, e2⟩ := bc_hi (x := f.2.1 p) (by omega)
  have hab : a ≠ b := fun q => (jk_other (B.n p hp) h2).2 (by rw [e1, e2, q])
  obtain ⟨a1, a2, -⟩ := lo_some.mp e1
  obtain ⟨b1, b2, -⟩ := hi_some.mp e2
  obtain ⟨-, na, nea, -⟩ := B.nb hp a2
  obtain ⟨-, nb, neb, -⟩ := B.nb hp b2
  rw [e1, e2] at hl
  have hl : jp_wt (jF_w f (Int32.ofNat a) + jF_w f (Int32.ofNat b)) = true := hl
  rw [jF_w_of a1, jF_w_of b1] at hl
  unfold jf_absorb
  rw [e1, e2]
  simp only []
  have sa : bt (jf_rem f p).2.2 a = true := by show bt (f.2.2 &&& _) a = true; rw [bt_clr _ hp a1, na]; simp [nea]
  have wa : jp_wt ((jf_rem f p).1 a + (jf_rem f p).1 b) = true := by
    show jp_wt (upd f.1 p 0 a + upd f.1 p 0 b) = true
    rw [upd_ne _ _ nea, upd_ne _ _ neb]; exact hl
  have B1 := jf_B_rem (jf_B_setw (jf_B_rem B hp) a1 sa wa) b1
  have s1 : ∀ x, x < 12 → bt ((f.2.2 &&& (jk_bit p ^^^ (-1))) &&& (jk_bit b ^^^ (-1))) x = true → bt f.2.2 x = true ∧ x ≠ p ∧ x ≠ b := fun x hx h => by
    rw [bt_clr _ b1 hx, bt_clr _ hp hx] at h
    simp at h; exact ⟨h.1.1, h.1.2, h.2⟩
  refine ⟨jf_B_joins B1 a1 (show bt ((f.2.2 &&& (jk_bit p ^^^ (-1))) &&& (jk_bit b ^^^ (-1))) a = true by rw [bt_clr _ b1 a1, bt_clr _ hp a1, na]; simp [nea, hab]) (fun k hk h => ?_) 12 (Nat.le_refl _), ?_⟩
  · rw [jb_rem _ hp (by omega)] at h
    simp at h
    obtain ⟨-, nk, nek, -⟩ := B.nb b1 h.1.1
    refine ⟨fun q => ?_, show bt ((f.2.2 &&& (jk_bit p ^^^ (-1))) &&& (jk_bit b ^^^ (-1))) k = true by rw [bt_clr _ b1 hk, bt_clr _ hp hk, nk]; simp [h.2, nek]⟩
    -- three in a ring there are not
    subst q
    have h3 := W.2 (fun x => decide (x = p) || decide (x = k) || decide (x = b)) (fun x hx => by
      simp at hx
      rcases hx with (rfl | rfl) | rfl
      · exact ⟨hp, sp⟩
      · exact ⟨a1, na⟩
      · exact ⟨b1, nb⟩) ⟨p, by simp⟩
    have u1 := dU_add (U := fun _ => false) (e := jf_e f) hp rfl B.esym (B.irr hp)
    have u2 := cU_add (U := fun _ => false) hp rfl
    have u3 := dU_add (U := uA (fun _ => false) p) (e := jf_e f) hk (by unfold uA; simp; exact nea) B.esym (B.irr hk)
    have u4 := cU_add (U := uA (fun _ => false) p) hk (by unfold uA; simp; exact nea)
    have u5 := dU_add (U := uA (uA (fun _ => false) p) k) (e := jf_e f) b1 (by unfold uA; simp; exact ⟨neb, fun q => hab q.symm⟩) B.esym (B.irr b1)
    have u6 := cU_add (U := uA (uA (fun _ => false) p) k) b1 (by unfold uA; simp; exact ⟨neb, fun q => hab q.symm⟩)
    have u7 : uA (uA (uA (fun _ => false) p) k) b = fun x => decide (x = p) || decide (x = k) || decide (x = b) := funext fun x => by unfold uA; simp
    rw [u7] at u5 u6
    have v1 := nU_one (U := uA (fun _ => false) p) (n := jf_e f k) hp (by unfold uA; simp) (by show bt (f.2.1 k) p = true; rw [B.sym hk hp]; exact a2)
    have v2 := nU_two (U := uA (uA (fun _ => false) p) k) (n := jf_e f b) hp hk (fun q => nea q.symm) (by unfold uA; simp) (by show bt (f.2.1 b) p = true; rw [B.sym b1 hp]; exact b2) (by unfold uA; simp) h.1.1
    have z1 : cU (fun _ => false) = 0 := js_0 12
    have z2 := dU_nn (fun _ => false) (jf_e f)
    have z3 := nU_nn (fun _ => false) (jf_e f p)
    omega
  · refine AC_absorb (e := jf_e f) (s := jf_s f) (p := p) (a := a) (b := b) hp a1 b1 hab W.2 B.esym B.eirr sp nb (fun x hx h => ?_) a2 b2 (fun x y hx hy _ _ h => ?_)
    · unfold jf_s at h
      rw [(jw_joins _ _ _ 12).2] at h
      exact s1 x hx h
    · unfold jf_e at h ⊢
      rw [jb_joins _ _ a1 (by omega) 12 (Nat.le_refl _), jb_rem _ b1 (by omega), jb_rem _ hp (by omega), jb_rem _ hp (by omega)] at h
      simp only [Bool.or_eq_true, Bool.and_eq_true, decide_eq_true_eq] at h
      rcases h with (h | h) | h
      · left
        have h : ((bt ((jf_addw (jf_rem f p) a ((jf_rem f p).1 b)).2.1 x) y = true ∧ _) ∧ _) := h
        have h := h.1.1
        have h : bt ((jf_rem f p).2.1 x) y = true := h
        rw [jb_rem _ hp (by omega)] at h
        simp at h; exact h.1.1
      · exact Or.inr (Or.inl ⟨h.1.1, h.2.1.1⟩)
      · exact Or.inr (Or.inr ⟨h.1.1, h.2.1.1⟩)
theorem jf_W_split (W : jf_W f) {p : Nat} (hp : p < 12) : jf_W (jf_split f p) := by
  unfold jf_split
  cases e1 : lo (f.2.1 p) with
  | none => exact W
  | some a => exact jf_W_rem (jf_W_rem W (lo_some.mp e1).1) hp
theorem jf_W_bud (W : jf_W f) {p c : Nat} (hp : p < 12) (sp : bt f.2.2 p = true) {v : Int32} (hv : jp_wt v = true) (hc : lo (f.2.2 ^^^ (-1)) = some c) (hw : jp_wt (f.1 p + v) = true) : jf_W (jf_bud f p v) := by
  obtain ⟨c1, c2, -⟩ := lo_not hc
  have cp : c ≠ p := fun q => by rw [q, sp] at c2; cases c2
  unfold jf_bud
  rw [jf_free_of hc]
  have h1 := jf_W_hang W hc hv hp sp
  have sp' : bt (f.2.2 ||| jk_bit c) p = true := by rw [bt_set _ c1 hp, sp]; rfl
  have h2 := jf_W_setw h1 hp (x := f.1 p + v) sp' hw
  have : jf_join (jf_addw (jf_grow f c v) p v) c p = jf_setw (jf_join (jf_grow f c v) c p) p (f.1 p + v) := by
    show (upd (upd f.1 c v) p (upd f.1 c v p + v), _, _) = (upd (upd f.1 c v) p (f.1 p + v), _, _)
    rw [upd_ne (k := c) (j := p) f.1 v cp.symm]
    rfl
  rw [this]
  exact h2
theorem jf_W_up (W : jf_W f) {p q : Nat} (hp : p < 12) (hq : q < 12) (sp : bt f.2.2 p = true) (sq : bt f.2.2 q = true) (e : bt (f.2.1 p) q = true) {v : Int32} (hv : v = 1 ∨ v = -1) (h12 : bc f.2.2 < 12) (w1 : jp_wt (f.1 p + v) = true) (w2 : jp_wt (f.1 q + v) = true) : jf_W (jf_up f p q v) := by
  have B := W.1
  obtain ⟨c, hc⟩ := bc_free h12
  obtain ⟨c1, c2, -⟩ := lo_not hc
  have cp : c ≠ p := fun w => by rw [w, sp] at c2; cases c2
  have cq : c ≠ q := fun w => by rw [w, sq] at c2; cases c2
  have pq : p ≠ q := fun w => by rw [w, B.irr hq] at e; cases e
  have W1 := jf_W_setw (jf_W_part W hp hq) hq (x := f.1 q + v) sq w2
  have W2 := jf_W_bud (f := jf_addw (jf_part f p q) q v) (p := p) (c := c) W1 hp sp (jp_wt_pm hv) hc (by
    show jp_wt (upd f.1 q (f.1 q + v) p + v) = true
    rw [upd_ne _ _ pq]; exact w1)
  unfold jf_up
  rw [jf_free_of hc]
  have e2 : jf_free (jf_addw (jf_part f p q) q v) = c := jf_free_of (f := jf_addw (jf_part f p q) q v) hc
  have s2 : (jf_bud (jf_addw (jf_part f p q) q v) p v).2.2 = f.2.2 ||| jk_bit c := by unfold jf_bud; rw [e2]; rfl
  refine ⟨jf_B_join W2.1 c1 hq cq (by rw [s2, bt_set _ c1 c1]; simp) (by rw [s2, bt_set _ c1 hq, sq]; rfl), ?_⟩
  refine AC_up (e := jf_e f) (s := jf_s f) (p := p) (q := q) (c := c) hp hq c1 pq cp cq W.2 B.esym B.eirr (B.iso c1 c2) e (fun x hx h => ?_) (fun x y hx hy => ?_)
  · have h : bt (jf_bud (jf_addw (jf_part f p q) q v) p v).2.2 x = true := h
    rw [s2, bt_set _ c1 hx] at h
    simp at h; exact h.symm
  · show bt ((jf_join (jf_bud (jf_addw (jf_part f p q) q v) p v) c q).2.1 x) y = _
    rw [jb_join _ c1 hq (by omega)]
    unfold jf_bud
    rw [e2, jb_join _ c1 hp (by omega)]
    have : bt ((jf_addw (jf_grow (jf_addw (jf_part f p q) q v) c v) p v).2.1 x) y = bt ((jf_part f p q).2.1 x) y := rfl
    rw [this, jb_part _ hp hq (by omega)]
    show _ = ((bt (f.2.1 x) y && _ && _) || _ || _)
    simp only [Bool.decide_and, Bool.decide_or]
    have com : ∀ E xp xq xc yp yq yc : Bool, ((((E && !(xp && yq) && !(xq && yp)) || (xc && yp)) || (xp && yc)) || (xc && yq) || (xq && yc)) = ((E && !(xp && yq) && !(xq && yp)) || (xc && (yp || yq)) || (yc && (xp || xq))) := by decide +kernel
    exact com _ _ _ _ _ _ _
theorem jf_W_draw (W : jf_W f) {p : Nat} (hp : p < 12) (sp : bt f.2.2 p = true) {v s : Int32} (hv : jp_wt v = true) (hs : s &&& (f.2.1 p ^^^ (-1)) = 0) (h11 : bc f.2.2 < 11) (hw : jp_wt (f.1 p - v) = true) : jf_W (jf_draw f p v s) := by
  have B := W.1
  obtain ⟨z, hz⟩ := bc_free (x := f.2.2) (by omega)
  obtain ⟨c, hc⟩ := bc_free (x := f.2.2 ||| jk_bit z) (by have := bc_set (x := f.2.2) (lo_not hz).1; omega)
  obtain ⟨z1, z2, -⟩ := lo_not hz
  obtain ⟨c1, c2, -⟩ := lo_not hc
  rw [bt_set _ z1 c1] at c2
  have c3 : bt f.2.2 c = false := by simpa using (Bool.or_eq_false_iff.mp c2).1
  have cz : c ≠ z := by simpa using (Bool.or_eq_false_iff.mp c2).2
  have zp : z ≠ p := fun w => by rw [w, sp] at z2; cases z2
  have cp : c ≠ p := fun w => by rw [w, sp] at c3; cases c3
  have f1 : jf_free f = z := jf_free_of hz
  have f2 : jf_free (jf_grow f z 0) = c := jf_free_of (f := jf_grow f z 0) hc
  have sS : ∀ k, k < 32 → bt s k = true → bt (f.2.1 p) k = true := fun k hk h => jk_and_sub hs hk h
  unfold jf_draw
  rw [f1, f2]
  have B1 := jf_B_grow (jf_B_grow B hz jp_wt_0) hc hv
  have s0 : ∀ x, x < 12 → bt ((f.2.2 ||| jk_bit z) ||| jk_bit c) x = (bt f.2.2 x || decide (x = z) || decide (x = c)) := fun x hx => by rw [bt_set _ c1 hx, bt_set _ z1 hx]
  have B2 : jf_B (jf_addw (jf_grow (jf_grow f z 0) c v) p (-v)) := jf_B_setw B1 hp (x := (jf_grow (jf_grow f z 0) c v).1 p + -v) (show bt ((f.2.2 ||| jk_bit z) ||| jk_bit c) p = true by rw [s0 p hp, sp]; rfl) (by
    show jp_wt (upd (upd f.1 z 0) c v p + -v) = true
    rw [upd_ne _ _ cp.symm, upd_ne _ _ zp.symm, jw_sub]; exact hw)
  have B3 := jf_B_parts B2 hp s 12 (Nat.le_refl _)
  have e3 : (jf_parts (jf_addw (jf_grow (jf_grow f z 0) c v) p (-v)) p s 12).2.2 = (f.2.2 ||| jk_bit z) ||| jk_bit c := (jw_parts _ _ _ 12).2
  have B4 := jf_B_joins B3 c1 (by rw [show (jf_parts _ p s 12).2.2 = _ from e3, s0 c c1]; simp) (s := s) (fun k hk h => by
    obtain ⟨-, n1, n2, -⟩ := B.nb hp (sS k (by omega) h)
    refine ⟨(fun q => by rw [q, c3] at n1; cases n1), ?_⟩
    rw [show (jf_parts _ p s 12).2.2 = _ from e3, s0 k hk, n1]; rfl) 12 (Nat.le_refl _)
  have e4 : (jf_joins (jf_parts (jf_addw (jf_grow (jf_grow f z 0) c v) p (-v)) p s 12) c s 12).2.2 = (f.2.2 ||| jk_bit z) ||| jk_bit c := (jw_joins _ _ _ 12).2.trans e3
  have B5 := jf_B_join B4 hp z1 zp.symm (by rw [show (jf_joins _ c s 12).2.2 = _ from e4, s0 p hp, sp]; rfl) (by rw [show (jf_joins _ c s 12).2.2 = _ from e4, s0 z z1]; simp)
  have B6 := jf_B_join B5 z1 c1 cz.symm (by show bt (jf_joins _ c s 12).2.2 z = true; rw [show (jf_joins _ c s 12).2.2 = _ from e4, s0 z z1]; simp) (by show bt (jf_joins _ c s 12).2.2 c = true; rw [show (jf_joins _ c s 12).2.2 = _ from e4, s0 c c1]; simp)
  refine ⟨B6, ?_⟩
  refine AC_draw (e := jf_e f) (s := jf_s f) (S := bt s) (p := p) (z := z) (c := c) hp z1 c1 zp cp cz.symm W.2 sp z2 c3 B.esym B.eirr (fun x y hx hy h => ?_) (fun x hx h => sS x (by omega) h) (fun x hx h => ?_) (fun x y hx hy => ?_)
  · obtain ⟨-, a1, -, a2⟩ := B.nb hx h; exact ⟨a2, a1⟩
  · have h : bt (jf_joins _ c s 12).2.2 x = true := h
    rw [show (jf_joins _ c s 12).2.2 = _ from e4, s0 x hx] at h
    simp at h
    rcases h with (h | h) | h
    · exact Or.inr (Or.inr h)
    · exact Or.inl h
    · exact Or.inr (Or.inl h)
  · unfold jf_e
    rw [jb_join _ z1 c1 (by omega), jb_join _ hp z1 (by omega), jb_joins _ s c1 (by omega) 12 (Nat.le_refl _), jb_parts _ s hp (by omega) 12 (Nat.le_refl _)]
    have : bt ((jf_addw (jf_grow (jf_grow f z 0) c v) p (-v)).2.1 x) y = bt (f.2.1 x) y := rfl
    rw [this]
    simp only [Bool.decide_and, decide_eq_true hx, decide_eq_true hy, Bool.and_true]
theorem jf_ref_not : ¬ ((4 : Int32) = 0) ∧ ¬ ((5 : Int32) = 0) ∧ ¬ ((3 : Int32) = 0) ∧ ¬ ((1 : Int32) = 0) := by decide
/-- moves keep it -/
theorem jf_W_act (W : jf_W f) {m : jM} (e : jf_ref f false m = 0) : jf_W (jf_act f m) := by
  unfold jf_act
  rcases jf_ref_k e with hk | hk | hk | hk | hk | hk | hk | hk
  · obtain ⟨p, hp, e1, e2, e3, e4⟩ := jf_ref_0 e hk
    rw [if_pos hk, e1, pn_of hp]
    refine jf_W_down W hp e2 e4 ?_
    unfold jf_ref at e
    rw [if_pos hk, e1, jF_has_of hp, e2, if_pos rfl, jF_w_of hp, jF_n_of hp, if_pos ⟨e3, e4⟩, if_neg (by decide)] at e
    split at e
    · assumption
    · exact absurd e (by decide)
  · obtain ⟨p, q, hp, hq, e1, e3, e2, e4, e5, e6, e7⟩ := jf_ref_1 e hk
    rw [if_neg (by rw [hk]; decide), if_pos hk, e1, e3, pn_of hp, pn_of hq]
    unfold jf_ref at e
    rw [if_neg (by rw [hk]; decide), if_pos hk, e1, e3, jF_has_of hp, jF_has_of hq, e2, e4, if_pos ⟨rfl, rfl, e6⟩, jF_near_of hp hq, e5, if_pos rfl, if_neg (by simp; omega), jF_w_of hp, jF_w_of hq] at e
    split at e
    · rename_i w; exact jf_W_up W hp hq e2 e4 e5 e6 e7 w.1 w.2
    · exact absurd e (by decide)
  · obtain ⟨p, hp, e1, e2, e3, e4⟩ := jf_ref_2 e hk
    obtain ⟨c, hc⟩ := bc_free e4
    rw [if_neg (by rw [hk]; decide), if_neg (by rw [hk]; decide), if_pos hk, e1, pn_of hp]
    unfold jf_ref at e
    rw [if_neg (by rw [hk]; decide), if_neg (by rw [hk]; decide), if_pos hk, e1, jF_has_of hp, e2, if_pos ⟨rfl, e3⟩, if_neg (by simp; omega), jF_w_of hp] at e
    split at e
    · rename_i w; exact jf_W_bud W hp e2 (jp_wt_pm e3) hc w
    · exact absurd e (by decide)
  · obtain ⟨e3, e4⟩ := jf_ref_3 e hk
    obtain ⟨c, hc⟩ := bc_free e4
    rw [if_neg (by rw [hk]; decide), if_neg (by rw [hk]; decide), if_neg (by rw [hk]; decide), if_pos hk, jf_free_of hc]
    exact jf_W_grow W hc (jp_wt_pm e3)
  · obtain ⟨p, hp, e1, e2, e3, e4⟩ := jf_ref_4 e hk
    rw [if_neg (by rw [hk]; decide), if_neg (by rw [hk]; decide), if_neg (by rw [hk]; decide), if_neg (by rw [hk]; decide), if_pos hk, e1, pn_of hp]
    refine jf_W_absorb W hp e2 e4 ?_
    unfold jf_ref at e
    rw [if_neg (by rw [hk]; decide), if_neg (by rw [hk]; decide), if_neg (by rw [hk]; decide), if_neg (by rw [hk]; decide), if_pos hk, e1, jF_has_of hp, e2, if_pos rfl, jF_w_of hp, jF_n_of hp, if_pos ⟨e3, e4⟩, if_neg (by decide)] at e
    split at e
    · assumption
    · exact absurd e (by decide)
  · obtain ⟨p, hp, e1, e2, -, e4⟩ := jf_ref_5 e hk
    rw [if_neg (by rw [hk]; decide), if_neg (by rw [hk]; decide), if_neg (by rw [hk]; decide), if_neg (by rw [hk]; decide), if_neg (by rw [hk]; decide), if_pos hk, e1, pn_of hp]
    exact jf_W_split W hp
  · rw [if_neg (by rw [hk]; decide), if_neg (by rw [hk]; decide), if_neg (by rw [hk]; decide), if_neg (by rw [hk]; decide), if_neg (by rw [hk]; decide), if_neg (by rw [hk]; decide), if_pos hk]
    exact jf_W_mirror W
  · obtain ⟨p, hp, e1, e2, e5, e3, e4⟩ := jf_ref_7 e hk
    rw [if_neg (by rw [hk]; decide), if_neg (by rw [hk]; decide), if_neg (by rw [hk]; decide), if_neg (by rw [hk]; decide), if_neg (by rw [hk]; decide), if_neg (by rw [hk]; decide), if_neg (by rw [hk]; decide), e1, pn_of hp]
    unfold jf_ref at e
    rw [if_neg (by rw [hk]; decide), if_neg (by rw [hk]; decide), if_neg (by rw [hk]; decide), if_neg (by rw [hk]; decide), if_neg (by rw [hk]; decide), if_neg (by rw [hk]; decide), if_neg (by rw [hk]; decide), if_pos hk, e1, jF_has_of hp, e2, jF_n_of hp, if_pos ⟨rfl, e5, e3⟩, if_neg (by simp; omega), jF_w_of hp] at e
    split at e
    · rename_i w; exact jf_W_draw W hp e2 e5 e3 e4 w
    · exact absurd e (by decide)
theorem jf_W_0 : jf_W jf_0 := by
  refine ⟨⟨S12_0, fun _ _ => S12_0, fun _ _ _ _ => (bt_0 _).trans (bt_0 _).symm, fun _ _ => bt_0 _, fun _ _ _ => ⟨rfl, rfl⟩, fun _ _ => jp_wt_0⟩, fun U hU ⟨x, hx⟩ => ?_⟩
  have : bt 0 x = true := (hU x hx).2
  rw [bt_0] at this; cases this
end
