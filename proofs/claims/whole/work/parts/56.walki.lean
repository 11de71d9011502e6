/-! What a walk keeps; from(), over() -/
def wk_C (seen seen0 : Int32) : Nat → Bool := fun x => bt seen x && !bt seen0 x
/-- the order, the holders; the tree at hand is what is seen beyond seen0 -/
def wk_I (f : jF) (set seen0 : Int32) (st : Nat) (o : Nat → Nat) (par : Nat → Option Nat) (dep : Nat → Nat) (sz : Nat) (seen : Int32) (pr : Nat) : Prop :=
  (sz = bc seen ∧ pr ≤ sz ∧ st ≤ pr ∧ S12 seen) ∧
  (∀ i, i < sz → o i < 12 ∧ bt seen (o i) = true) ∧
  (∀ x, bt seen x = true → ∃ i, i < sz ∧ o i = x) ∧
  (∀ x, bt seen x = true → bt set x = true) ∧
  (∀ i, i < sz → (bt seen0 (o i) = true ↔ i < st)) ∧
  (∀ x, bt seen0 x = true → bt seen x = true) ∧
  (∀ i, i < pr → ∀ y, bt (f.2.1 (o i)) y = true → bt set y = true → bt seen y = true) ∧
  (∀ x y, bt seen0 x = true → bt (f.2.1 x) y = true → bt set y = true → bt seen0 y = true) ∧
  (∀ i, i < sz → ∀ q, par (o i) = some q → ∃ j, j < i ∧ o j = q ∧ bt (f.2.1 q) (o i) = true) ∧
  (∀ i j, j < i → i < sz → bt (f.2.1 (o j)) (o i) = true → par (o i) = some (o j)) ∧
  (∀ i j, i < sz → j < sz → o i = o j → i = j) ∧
  ((∃ x, wk_C seen seen0 x = true) → 2 * cU (wk_C seen seen0) - 2 ≤ dU (wk_C seen seen0) (jf_e f))
section
variable {f : jF} {set seen0 : Int32} {st : Nat} {o : Nat → Nat} {par : Nat → Option Nat} {dep : Nat → Nat} {sz : Nat} {seen : Int32} {pr : Nat}
theorem wk_I_add (W : jf_W f) (hset : ∀ x, bt set x = true → x < 12 ∧ bt f.2.2 x = true) (I : wk_I f set seen0 st o par dep sz seen pr) (h1 : pr < sz) {y : Nat} (hy : y < 12) (sy : bt set y = true) (ny : bt seen y = false) (ey : bt (f.2.1 (o pr)) y = true) (dd : Nat) : sz < 12 ∧ wk_I f set seen0 st (va_up o sz y) (va_up par y (some (o pr))) (va_up dep y dd) (sz + 1) (seen ||| jk_bit y) pr := by
  obtain ⟨⟨a1, a2, a3, a4⟩, a5, a6, a7, a8, a9, a10, a11, a12, a13, a14, a15⟩ := I
  have B := W.1
  have ny0 : bt seen0 y = false := by
    cases z : bt seen0 y
    · rfl
    · rw [a9 y z] at ny; cases ny
  have nsz : sz < 12 := by
    have := bc_le (seen ||| jk_bit y)
    have := bc_set_eq (x := seen) hy ny
    omega
  obtain ⟨p12, ps⟩ := a5 pr h1
  have pn0 : bt seen0 (o pr) = false := by
    cases z : bt seen0 (o pr)
    · rfl
    · have := (a8 pr h1).mp z; omega
  have on : ∀ i, i < sz → o i ≠ y := fun i hi q => by
    have := (a5 i hi).2
    rw [q, ny] at this; cases this
  have hC : wk_C (seen ||| jk_bit y) seen0 = uA (wk_C seen seen0) y := funext fun x => by
    unfold wk_C uA
    by_cases hx : x < 32
    · rw [bt_or, bt_bit (by omega) hx]
      by_cases q : x = y
      · subst q; simp [ny0]
      · simp [q]
    · rw [bt_big _ (by omega), bt_big _ (by omega)]
      have : ¬ x = y := by omega
      simp [this, bt_big seen (show 32 ≤ x by omega)]
  have Cy : wk_C seen seen0 y = false := by unfold wk_C; rw [ny]; rfl
  have Cp : wk_C seen seen0 (o pr) = true := by unfold wk_C; rw [ps, pn0]; rfl
  have k1 := dU_add (U := wk_C seen seen0) (e := jf_e f) hy Cy B.esym (B.eirr y hy)
  have k2 := cU_add (U := wk_C seen seen0) hy Cy
  have k3 := a15 ⟨_, Cp⟩
  have eyp : jf_e f y (o pr) = true := by rw [B.esym y _ hy p12]; exact ey
  have k4 := W.2 (uA (wk_C seen seen0) y) (fun x hx => by
    unfold uA wk_C at hx
    simp at hx
    rcases hx with hx | hx
    · exact hset x (a7 x hx.1)
    · subst hx; exact hset x sy) ⟨y, by unfold uA; simp⟩
  refine ⟨nsz, ⟨by rw [bc_set_eq hy ny, a1], by omega, a3, S12_or a4 (S12_bit hy)⟩, fun i hi => ?_, fun x hx => ?_, fun x hx => ?_, fun i hi => ?_, fun x hx => ?_, fun i hi z hz1 hz2 => ?_, a11, fun i hi q hq => ?_, fun i j hij hi hadj => ?_, fun i j hi hj hij => ?_, fun _ => ?_⟩
  · by_cases q : i = sz
    · subst q; rw [va_self, bt_set _ hy hy]; exact ⟨hy, by simp⟩
    · rw [va_ne _ _ q, bt_or, (a5 i (by omega)).2]; exact ⟨(a5 i (by omega)).1, rfl⟩
  · by_cases x12 : x < 12
    · rw [bt_set _ hy x12] at hx
      simp at hx
      rcases hx with hx | hx
      · obtain ⟨i, i1, i2⟩ := a6 x hx
        exact ⟨i, by omega, by rw [va_ne _ _ (by omega)]; exact i2⟩
      · exact ⟨sz, by omega, by rw [va_self, hx]⟩
    · rw [S12_or a4 (S12_bit hy) x (by omega)] at hx; cases hx
  · by_cases x12 : x < 12
    · rw [bt_set _ hy x12] at hx
      simp at hx
      rcases hx with hx | hx
      · exact a7 x hx
      · rw [hx]; exact sy
    · rw [S12_or a4 (S12_bit hy) x (by omega)] at hx; cases hx
  · by_cases q : i = sz
    · subst q; rw [va_self, ny0]
      exact ⟨fun z => (by cases z), fun z => by omega⟩
    · rw [va_ne _ _ q]; exact a8 i (by omega)
  · rw [bt_or, a9 x hx]; rfl
  · rw [va_ne _ _ (by omega)] at hz1
    rw [bt_or, a10 i hi z hz1 hz2]; rfl
  · by_cases z : i = sz
    · subst z
      rw [va_self] at hq ⊢
      rw [va_self] at hq
      cases hq
      exact ⟨pr, h1, by rw [va_ne _ _ (by omega)], ey⟩
    · rw [va_ne _ _ z] at hq ⊢
      rw [va_ne _ _ (on i (by omega))] at hq
      obtain ⟨j, j1, j2, j3⟩ := a12 i (by omega) q hq
      exact ⟨j, j1, by rw [va_ne _ _ (by omega)]; exact j2, j3⟩
  · by_cases z : i = sz
    · subst z
      rw [va_self, va_ne _ _ (by omega)] at hadj
      rw [va_self, va_self, va_ne (k := i) (j := j) _ _ (by omega)]
      by_cases q : o j = o pr
      · rw [q]
      · exfalso
        obtain ⟨j12, js⟩ := a5 j hij
        have jn0 : bt seen0 (o j) = false := by
          cases w : bt seen0 (o j)
          · rfl
          · rw [a11 _ y w hadj sy] at ny0; cases ny0
        have k5 := nU_two (U := wk_C seen seen0) (n := jf_e f y) j12 p12 q (by unfold wk_C; rw [js, jn0]; rfl) (by rw [B.esym y _ hy j12]; exact hadj) Cp eyp
        omega
    · rw [va_ne _ _ z] at hadj ⊢
      rw [va_ne (k := sz) (j := j) _ _ (by omega)] at hadj ⊢
      rw [va_ne _ _ (on i (by omega))]
      exact a13 i j hij (by omega) hadj
  · by_cases z1 : i = sz
    · by_cases z2 : j = sz
      · omega
      · subst z1
        rw [va_self, va_ne _ _ z2] at hij
        exact absurd hij.symm (on j (by omega))
    · by_cases z2 : j = sz
      · subst z2
        rw [va_self, va_ne _ _ z1] at hij
        exact absurd hij (on i (by omega))
      · rw [va_ne _ _ z1, va_ne _ _ z2] at hij
        exact a14 i j (by omega) (by omega) hij
  · rw [hC]
    have k5 := nU_one (U := wk_C seen seen0) (n := jf_e f y) p12 Cp eyp
    omega
theorem wk_I_adv (I : wk_I f set seen0 st o par dep sz seen pr) (h1 : pr < sz) (h : ∀ y, bt (f.2.1 (o pr)) y = true → bt set y = true → bt seen y = true) : wk_I f set seen0 st o par dep sz seen (pr + 1) := by
  obtain ⟨⟨a1, a2, a3, a4⟩, a5, a6, a7, a8, a9, a10, a11⟩ := I
  refine ⟨⟨a1, by omega, by omega, a4⟩, a5, a6, a7, a8, a9, fun i hi y hy1 hy2 => ?_, a11⟩
  by_cases q : i = pr
  · subst q; exact h y hy1 hy2
  · exact a10 i (by omega) y hy1 hy2
theorem wk_I_base (I : wk_I f set seen0 st o par dep sz seen pr) : sz ≤ 12 ∧ pr ≤ sz ∧ (∀ i, i < sz → o i < 12 ∧ bt seen (o i) = true) :=
  ⟨by have := bc_le seen; have := I.1.1; omega, I.1.2.1, I.2.1⟩
/-- a new root, when all that is seen is looked around from -/
theorem wk_I_root (I : wk_I f set seen0 st o par dep sz seen sz) {r : Nat} (hr : r < 12) (sr : bt set r = true) (nr : bt seen r = false) (irr : bt (f.2.1 r) r = false) (dd : Nat) : sz < 12 ∧ wk_I f set seen sz (va_up o sz r) (va_up par r none) (va_up dep r dd) (sz + 1) (seen ||| jk_bit r) sz := by
  obtain ⟨⟨a1, a2, a3, a4⟩, a5, a6, a7, a8, a9, a10, a11, a12, a13, a14, a15⟩ := I
  have nsz : sz < 12 := by
    have := bc_le (seen ||| jk_bit r)
    have := bc_set_eq (x := seen) hr nr
    omega
  have on : ∀ i, i < sz → o i ≠ r := fun i hi q => by
    have := (a5 i hi).2
    rw [q, nr] at this; cases this
  refine ⟨nsz, ⟨by rw [bc_set_eq hr nr, a1], by omega, by omega, S12_or a4 (S12_bit hr)⟩, fun i hi => ?_, fun x hx => ?_, fun x hx => ?_, fun i hi => ?_, fun x hx => ?_, fun i hi z hz1 hz2 => ?_, fun x y hx1 hx2 hx3 => ?_, fun i hi q hq => ?_, fun i j hij hi hadj => ?_, fun i j hi hj hij => ?_, fun _ => ?_⟩
  · by_cases q : i = sz
    · subst q; rw [va_self, bt_set _ hr hr]; exact ⟨hr, by simp⟩
    · rw [va_ne _ _ q, bt_or, (a5 i (by omega)).2]; exact ⟨(a5 i (by omega)).1, rfl⟩
  · by_cases x12 : x < 12
    · rw [bt_set _ hr x12] at hx
      simp at hx
      rcases hx with hx | hx
      · obtain ⟨i, i1, i2⟩ := a6 x hx
        exact ⟨i, by omega, by rw [va_ne _ _ (by omega)]; exact i2⟩
      · exact ⟨sz, by omega, by rw [va_self, hx]⟩
    · rw [S12_or a4 (S12_bit hr) x (by omega)] at hx; cases hx
  · by_cases x12 : x < 12
    · rw [bt_set _ hr x12] at hx
      simp at hx
      rcases hx with hx | hx
      · exact a7 x hx
      · rw [hx]; exact sr
    · rw [S12_or a4 (S12_bit hr) x (by omega)] at hx; cases hx
  · by_cases q : i = sz
    · subst q; rw [va_self, nr]
      exact ⟨fun z => (by cases z), fun z => by omega⟩
    · rw [va_ne _ _ q, (a5 i (by omega)).2]; exact ⟨fun _ => by omega, fun _ => rfl⟩
  · rw [bt_or, hx]; rfl
  · rw [va_ne _ _ (by omega)] at hz1
    rw [bt_or, a10 i hi z hz1 hz2]; rfl
  · obtain ⟨i, i1, i2⟩ := a6 x hx1
    rw [← i2] at hx2
    exact a10 i i1 y hx2 hx3
  · by_cases z : i = sz
    · subst z
      rw [va_self] at hq
      rw [va_self] at hq
      cases hq
    · rw [va_ne _ _ z] at hq ⊢
      rw [va_ne _ _ (on i (by omega))] at hq
      obtain ⟨j, j1, j2, j3⟩ := a12 i (by omega) q hq
      exact ⟨j, j1, by rw [va_ne _ _ (by omega)]; exact j2, j3⟩
  · by_cases z : i = sz
    · subst z
      rw [va_self, va_ne _ _ (by omega)] at hadj
      have := a10 j hij r hadj sr
      rw [nr] at this; cases this
    · rw [va_ne _ _ z] at hadj ⊢
      rw [va_ne (k := sz) (j := j) _ _ (by omega)] at hadj ⊢
      rw [va_ne _ _ (on i (by omega))]
      exact a13 i j hij (by omega) hadj
  · by_cases z1 : i = sz
    · by_cases z2 : j = sz
      · omega
      · subst z1
        rw [va_self, va_ne _ _ z2] at hij
        exact absurd hij.symm (on j (by omega))
    · by_cases z2 : j = sz
      · subst z2
        rw [va_self, va_ne _ _ z1] at hij
        exact absurd hij (on i (by omega))
      · rw [va_ne _ _ z1, va_ne _ _ z2] at hij
        exact a14 i j (by omega) (by omega) hij
  · have hC : wk_C (seen ||| jk_bit r) seen = uA (fun _ => false) r := funext fun x => by
      unfold wk_C uA
      by_cases hx : x < 32
      · rw [bt_or, bt_bit (by omega) hx]
        by_cases q : x = r
        · subst q; simp [nr]
        · simp [q]
      · rw [bt_big _ (by omega), bt_big _ (by omega)]
        have : ¬ x = r := by omega
        simp [this, bt_big seen (show 32 ≤ x by omega)]
    rw [hC, cU_add hr rfl]
    have := dU_nn (uA (fun _ => false) r) (jf_e f)
    have z : cU (fun _ => false) = 0 := js_0 12
    omega
theorem wk_I_0 (f : jF) (set : Int32) (o : Nat → Nat) (par : Nat → Option Nat) (dep : Nat → Nat) : wk_I f set 0 0 o par dep 0 0 0 := by
  refine ⟨⟨by decide, by omega, by omega, S12_0⟩, fun i hi => by omega, fun x hx => ?_, fun x hx => ?_, fun i hi => by omega, fun x hx => hx, fun i hi => by omega, fun x y hx => ?_, fun i hi => by omega, fun i j _ hi => by omega, fun i j hi => by omega, fun ⟨x, hx⟩ => ?_⟩
  · rw [bt_0] at hx; cases hx
  · rw [bt_0] at hx; cases hx
  · rw [bt_0] at hx; cases hx
  · unfold wk_C at hx; rw [bt_0] at hx; cases hx
/-- depths are layers -/
def wk_D (f : jF) (r : Nat) (o : Nat → Nat) (dep : Nat → Nat) (sz : Nat) (seen : Int32) (pr : Nat) : Prop :=
  (∀ i j, i ≤ j → j < sz → dep (o i) ≤ dep (o j)) ∧ (∀ j, j < sz → ∀ i, i < sz → pr ≤ i → dep (o j) ≤ dep (o i) + 1) ∧
  (∀ x, bt seen x = true → bt (jt_L f r (dep x)) x = true ∧ ∀ k, k < dep x → bt (jt_L f r k) x = false) ∧
  (pr < sz → ∀ k x, k ≤ dep (o pr) → bt (jt_L f r k) x = true → bt seen x = true)
theorem wk_D_add {r : Nat} (I : wk_I f set seen0 st o par dep sz seen pr) (D : wk_D f r o dep sz seen pr) (h1 : pr < sz) {y : Nat} (ny : bt seen y = false) (ey : bt (f.2.1 (o pr)) y = true) : wk_D f r (va_up o sz y) (va_up dep y (dep (o pr) + 1)) (sz + 1) (seen ||| jk_bit y) pr := by
  obtain ⟨⟨a1, a2, a3, a4⟩, a5, a6, -⟩ := I
  obtain ⟨d1, d2, d3, d4⟩ := D
  have on : ∀ i, i < sz → o i ≠ y := fun i hi q => by
    have := (a5 i hi).2
    rw [q, ny] at this; cases this
  have dn : ∀ i, i < sz → va_up dep y (dep (o pr) + 1) (va_up o sz y i) = dep (o i) := fun i hi => by rw [va_ne (k := sz) (j := i) _ _ (by omega), va_ne _ _ (on i hi)]
  have ds : va_up dep y (dep (o pr) + 1) (va_up o sz y sz) = dep (o pr) + 1 := by rw [va_self, va_self]
  refine ⟨fun i j hij hj => ?_, fun j hj i hi hpr => ?_, fun x hx => ?_, fun _ k x hk hx => ?_⟩
  · by_cases q : j = sz
    · subst q
      rw [ds]
      by_cases q2 : i = j
      · subst q2; rw [ds]; omega
      · rw [dn i (by omega)]; exact d2 i (by omega) pr h1 (Nat.le_refl _)
    · rw [dn j (by omega), dn i (by omega)]; exact d1 i j hij (by omega)
  · by_cases q : j = sz
    · subst q
      rw [ds]
      by_cases q2 : i = j
      · subst q2; rw [ds]; omega
      · rw [dn i (by omega)]
        have := d1 pr i hpr (by omega)
        omega
    · rw [dn j (by omega)]
      by_cases q2 : i = sz
      · subst q2; rw [ds]
        have := d2 j (by omega) pr h1 (Nat.le_refl _)
        omega
      · rw [dn i (by omega)]; exact d2 j (by omega) i (by omega) hpr
  · by_cases q : x = y
    · subst q
      rw [va_self]
      obtain ⟨b1, -⟩ := d3 (o pr) (a5 pr h1).2
      refine ⟨(jt_L_succ f r _ x).mpr (Or.inr ⟨o pr, (a5 pr h1).1, b1, ey⟩), fun k hk => ?_⟩
      cases z : bt (jt_L f r k) x
      · rfl
      · have := d4 h1 k x (by omega) z
        rw [ny] at this; cases this
    · rw [va_ne _ _ q]
      refine d3 x ?_
      by_cases x32 : x < 32
      · by_cases y32 : y < 32
        · have hx : bt (seen ||| jk_bit y) x = true := hx
          rw [bt_or, bt_bit y32 x32] at hx
          simpa [q] using hx
        · have := (bt_big (f.2.1 (o pr)) (k := y) (by omega)); rw [ey] at this; cases this
      · rw [bt_big _ (by omega)] at hx; cases hx
  · rw [dn pr h1] at hk
    rw [bt_or, d4 h1 k x hk hx]; rfl
theorem wk_D_adv {r : Nat} (hset : ∀ x y, x < 12 → bt (f.2.1 x) y = true → bt set y = true) (I : wk_I f set seen0 st o par dep sz seen pr) (D : wk_D f r o dep sz seen pr) (h1 : pr < sz) (h : ∀ y, bt (f.2.1 (o pr)) y = true → bt set y = true → bt seen y = true) : wk_D f r o dep sz seen (pr + 1) := by
  obtain ⟨⟨a1, a2, a3, a4⟩, a5, a6, a7, a8, a9, a10, -⟩ := I
  obtain ⟨d1, d2, d3, d4⟩ := D
  refine ⟨d1, fun j hj i hi hpr => d2 j hj i hi (by omega), d3, fun h2 k x hk hx => ?_⟩
  by_cases hk2 : k ≤ dep (o pr)
  · exact d4 h1 k x hk2 hx
  · have e1 := d2 (pr + 1) h2 pr h1 (Nat.le_refl _)
    have ek : k = dep (o pr) + 1 := by omega
    subst ek
    rcases (jt_L_succ f r _ x).mp hx with hx | ⟨z, z1, z2, z3⟩
    · exact d4 h1 _ x (Nat.le_refl _) hx
    · have zs := d4 h1 _ z (Nat.le_refl _) z2
      obtain ⟨j, j1, j2⟩ := a6 z zs
      have zd : dep z ≤ dep (o pr) := by
        apply Classical.byContradiction; intro w
        have := (d3 z zs).2 (dep (o pr)) (by omega)
        rw [z2] at this; cases this
      have jp : j < pr + 1 := by
        apply Classical.byContradiction; intro w
        have := d1 (pr + 1) j (by omega) j1
        rw [j2] at this
        omega
      rw [← j2] at z3
      by_cases q : j = pr
      · subst q; exact h x z3 (hset _ x (a5 j j1).1 z3)
      · exact a10 j (by omega) x z3 (hset _ x (a5 j j1).1 z3)
end
-- from(), farthest(), treeOf()
section
variable {rc : Nat → Nat × (Nat → Int32)} {h : jxH} {a b : Nat} {f : jF}
theorem wk_clear (H : wk_ok h a) : ∃ h', h' = jx_set h a (jxO 10 [.ref (a + 1), .ref (a + 2), .ref (a + 3), .int 0, .int 0]) ∧ wk_at h' a (fun _ => 0) (fun _ => none) (fun _ => 0) 0 0 ∧ Fr (jI a 4) h h' := by
  obtain ⟨⟨sz, sn, e⟩, ⟨g1, e1⟩, ⟨g2, e2⟩, g3, e3⟩ := H
  refine ⟨_, rfl, ⟨jk_at_self .., ⟨g1, by rw [jk_at_ne _ _ (by omega)]; exact e1, fun i hi => by omega⟩, ⟨g2, by rw [jk_at_ne _ _ (by omega)]; exact e2, fun x _ hb => by rw [bt_0] at hb; cases hb⟩, g3, by rw [jk_at_ne _ _ (by omega)]; exact e3, fun x _ hb => by rw [bt_0] at hb; cases hb⟩, Fr.set ⟨Nat.le_refl _, by omega⟩⟩
def wk_J (f : jF) (set seen0 : Int32) (st r : Nat) (o : Nat → Nat) (par : Nat → Option Nat) (dep : Nat → Nat) (sz : Nat) (seen : Int32) (pr : Nat) : Prop := wk_I f set seen0 st o par dep sz seen pr ∧ wk_D f r o dep sz seen pr
/-- from(): what is seen is the tree; layers; each is held by one ahead of it, its only neighbour there -/
theorem wk_from (H : wk_ok h a) (G : fo_at h b f) (W : jf_W f) (hab : b + 3 ≤ a ∨ a + 4 ≤ b) {p : Nat} (hp : p < 12) (sp : bt f.2.2 p = true) : ∃ h' o par dep sz, (∀ d, jx_C rc (d + 3) 320 [.ref a, .ref b, .int (Int32.ofNat p)] h = some (none, h')) ∧ wk_at h' a o par dep sz (jt_T f p) ∧ wk_J f f.2.2 0 0 p o par dep sz (jt_T f p) sz ∧ 0 < sz ∧ o 0 = p ∧ par p = none ∧ Fr (jI a 4) h h' := by
  have B := W.1
  obtain ⟨h1, e1, r1, r2⟩ := wk_clear H
  obtain ⟨n1, I0⟩ := wk_I_root (wk_I_0 f f.2.2 (fun _ => 0) (fun _ => none) (fun _ => 0)) hp sp (bt_0 p) (B.irr hp) 0
  have G1 := fo_fr r2 (fun x q1 q2 z => by unfold jI at z; omega) G
  obtain ⟨h2, s1, s2, s3⟩ := wk_enter (rc := rc) r1 n1 hp none 0
  have G2 := fo_fr s3 (fun x q1 q2 z => by unfold jI at z; omega) G1
  have D0 : wk_D f p (va_up (fun _ => 0) 0 p) (va_up (fun _ => 0) p 0) (0 + 1) (0 ||| jk_bit p) 0 := by
    refine ⟨fun i j hij hj => ?_, fun j hj i hi _ => ?_, fun x hx => ?_, fun _ k x hk hx => ?_⟩
    · have : i = j := by omega
      subst this; exact Nat.le_refl _
    · have : i = j := by omega
      subst this; omega
    · rw [Int32.zero_or] at hx
      have hx0 := hx
      by_cases x32 : x < 32
      · rw [bt_bit (by omega) x32] at hx
        have hx : x = p := by simpa using hx
        subst hx
        rw [va_self]
        exact ⟨hx0, fun k hk => by omega⟩
      · rw [bt_big _ (by omega)] at hx; cases hx
    · rw [va_self, va_self] at hk
      have : k = 0 := by omega
      subst this
      rw [Int32.zero_or]; exact hx
  have nb : ∀ x y, x < 12 → bt (f.2.1 x) y = true → bt f.2.2 y = true := fun x y hx e => (B.nb hx e).2.1
  obtain ⟨h3, o, par, dep, sz, seen, k1, k2, ⟨⟨kI, kD⟩, z1, z2, z3, z4⟩, k4, k5⟩ := wk_spread_l (rc := rc) (J := fun o par dep sz seen pr => (wk_I f f.2.2 0 0 o par dep sz seen pr ∧ wk_D f p o dep sz seen pr) ∧ 0 < sz ∧ o 0 = p ∧ par p = none ∧ bt seen p = true) (f := f) (set := f.2.2) (a := a) (b := b)
    (fun j => wk_I_base j.1.1)
    (fun {o par dep sz seen pr y} j hpr hy sy ny ey => by
      obtain ⟨⟨j1, j2⟩, j3, j4, j5, j6⟩ := j
      obtain ⟨q1, q2⟩ := wk_I_add W (fun x hx => ⟨(by
        apply Classical.byContradiction; intro z
        rw [B.s x (by omega)] at hx; cases hx), hx⟩) j1 hpr hy sy ny ey (dep (o pr) + 1)
      exact ⟨q1, ⟨q2, wk_D_add j1 j2 hpr ny ey⟩, by omega, by rw [va_ne _ _ (by omega)]; exact j4, by rw [va_ne _ _ (fun z => by rw [← z, j6] at ny; cases ny)]; exact j5, by rw [bt_or, j6]; rfl⟩)
    (fun j hpr hh => ⟨⟨wk_I_adv j.1.1 hpr hh, wk_D_adv nb j.1.1 j.1.2 hpr hh⟩, j.2⟩)
    B.n hab 12 0 h2 _ _ _ _ _ (by omega) G2 s2 ⟨⟨I0, D0⟩, by omega, va_self .., va_self .., by rw [Int32.zero_or, bt_bit (by omega) (by omega)]; simp⟩
  have eT : seen = jt_T f p := jt_T_uniq B.n kI.1.2.2.2 hp z4 (fun x y hx h1 h2 => by
      obtain ⟨i, i1, i2⟩ := kI.2.2.1 x h1
      rw [← i2] at h2
      exact kI.2.2.2.2.2.2.1 i i1 y h2 (nb _ y (kI.2.1 i i1).1 h2)) (fun y hy => jt_L_min (C := fun y => bt (jt_T f p) y = true) hp (jt_T_self f hp) (fun x y h1 h2 h3 => jt_T_closed B.n hp h2 h1 h3) (dep y) y (kD.2.2.1 y hy).1)
  subst eT
  refine ⟨h3, o, par, dep, sz, fun d => ?_, k2, ⟨kI, kD⟩, z1, z2, z3, r2.trans (s3.trans k5)⟩
  obtain ⟨⟨sz0, sn0, e0⟩, -⟩ := H
  have o1 : jx_at (jx_set h a (jxO 10 [.ref (a + 1), .ref (a + 2), .ref (a + 3), .int 0, .int sn0])) a = jxO 10 [.ref (a + 1), .ref (a + 2), .ref (a + 3), .int 0, .int sn0] := jk_at_self ..
  rw [je_320, e0]
  show (if true = true then _ else _) = _
  rw [if_pos rfl, show jx_pF (jxO 10 [Value.ref (a + 1), Value.ref (a + 2), Value.ref (a + 3), Value.int sz0, Value.int sn0]) 10 3 (.int 0) = some (jxO 10 [Value.ref (a + 1), Value.ref (a + 2), Value.ref (a + 3), Value.int 0, Value.int sn0]) from rfl, jk_bs, o1, show jx_pF (jxO 10 [Value.ref (a + 1), Value.ref (a + 2), Value.ref (a + 3), Value.int 0, Value.int sn0]) 10 4 (.int 0) = some (jxO 10 [Value.ref (a + 1), Value.ref (a + 2), Value.ref (a + 3), Value.int 0, Value.int 0]) from rfl, jk_bs, jk_set_set, ← e1, fo_has G1, jk_cI, jF_has_of hp, sp, jk_if0, if_pos rfl, fo_g2 G1, jk_bs]
  have p0 : jx_C rc (d + 2) 321 [.ref a, .ref b, .int f.2.2, .int (Int32.ofNat p)] h1 = some (none, h3) := by
    rw [je_321, if_pos (wk_is r1), wk_g3 r1, jk_bs]
    have := s1 d
    rw [show jk_on none = (-1 : Int32) from rfl, show Int32.ofNat 0 = (0 : Int32) from rfl] at this
    rw [this, jk_cV]
    exact k1 d
  rw [p0, jk_cV]
/-- farthest(): the number of layers -/
theorem wk_far (B : jf_B f) {p : Nat} (hp : p < 12) {o : Nat → Nat} {par : Nat → Option Nat} {dep : Nat → Nat} {sz : Nat} (J : wk_J f f.2.2 0 0 p o par dep sz (jt_T f p) sz) (h0 : 0 < sz) : jt_L f p (dep (o (sz - 1)) + 1) = jt_L f p (dep (o (sz - 1))) ∧ ∀ j, j < dep (o (sz - 1)) → jt_L f p (j + 1) ≠ jt_L f p j := by
  obtain ⟨I, d1, d2, d3, d4⟩ := J
  have L : ∀ x, bt (jt_T f p) x = true → bt (jt_L f p (dep (o (sz - 1)))) x = true := fun x hx => by
    obtain ⟨i, i1, i2⟩ := I.2.2.1 x hx
    have := d1 i (sz - 1) (by omega) (by omega)
    rw [i2] at this
    exact jt_L_le f p this (d3 x hx).1
  have T : ∀ k x, bt (jt_L f p k) x = true → bt (jt_T f p) x = true := fun k x hx => jt_L_min (C := fun y => bt (jt_T f p) y = true) hp (jt_T_self f hp) (fun x y h1 h2 h3 => jt_T_closed B.n hp h2 h1 h3) k x hx
  refine ⟨S12_ext (jt_L_S B.n hp _) (jt_L_S B.n hp _) fun k hk => ?_, fun j hj e => ?_⟩
  · cases a : bt (jt_L f p (dep (o (sz - 1)))) k
    · cases b : bt (jt_L f p (dep (o (sz - 1)) + 1)) k
      · rfl
      · rw [L k (T _ k b)] at a; cases a
    · exact (jt_L_succ f p _ k).mpr (Or.inl a)
  · have ls := (I.2.1 (sz - 1) (by omega)).2
    have := (d3 _ ls).2 j hj
    have e2 := jt_L_stop e (dep (o (sz - 1)) - j)
    rw [show j + (dep (o (sz - 1)) - j) = dep (o (sz - 1)) by omega] at e2
    have := (d3 _ ls).1
    rw [e2] at this
    simp_all
end
