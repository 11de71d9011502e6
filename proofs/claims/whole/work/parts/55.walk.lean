/-! The class's Walk: vertices in an order in which each comes behind the one that holds it -/
def wk_at (h : jxH) (a : Nat) (o : Nat → Nat) (par : Nat → Option Nat) (dep : Nat → Nat) (sz : Nat) (seen : Int32) : Prop :=
  jx_at h a = jxO 10 [.ref (a + 1), .ref (a + 2), .ref (a + 3), .int (Int32.ofNat sz), .int seen] ∧ (∃ O, jx_at h (a + 1) = jxI 0 12 O ∧ ∀ i, i < sz → O i = Int32.ofNat (o i)) ∧ (∃ G, jx_at h (a + 2) = jxI 0 12 G ∧ ∀ x, x < 12 → bt seen x = true → G x = jk_on (par x)) ∧ ∃ D, jx_at h (a + 3) = jxI 0 12 D ∧ ∀ x, x < 12 → bt seen x = true → D x = Int32.ofNat (dep x)
theorem bc_set_eq {x : Int32} {z : Nat} (hz : z < 12) (h : bt x z = false) : bc (x ||| jk_bit z) = bc x + 1 := by
  have a := bc_set (x := x) hz
  have m : bc x ≤ bc (x ||| jk_bit z) := bc_mono fun k _ hk => by rw [bt_or, hk]; rfl
  have ne : bc x ≠ bc (x ||| jk_bit z) := fun e => by
    have := countP_eq_imp (p := bt x) (q := bt (x ||| jk_bit z)) (l := List.range 12) (fun k _ hk => by rw [bt_or, hk]; rfl) e z (List.mem_range.mpr hz)
    rw [h, bt_set _ hz hz] at this
    simp at this
  omega
section
variable {rc : Nat → Nat × (Nat → Int32)} {h : jxH} {a b : Nat} {f : jF} {o : Nat → Nat} {par : Nat → Option Nat} {dep : Nat → Nat} {sz : Nat} {seen set : Int32}
theorem wk_okof (H : wk_at h a o par dep sz seen) : wk_ok h a := by
  obtain ⟨e, ⟨O, o1, o2⟩, ⟨G, g1, g2⟩, D, d1, d2⟩ := H
  exact ⟨⟨_, _, e⟩, ⟨O, o1⟩, ⟨G, g1⟩, D, d1⟩
theorem wk_at_fr {P : Nat → Prop} {h' : jxH} (F : Fr P h h') (hP : ∀ x, a ≤ x → x < a + 4 → ¬ P x) (H : wk_at h a o par dep sz seen) : wk_at h' a o par dep sz seen := by
  obtain ⟨e, ⟨O, o1, o2⟩, ⟨G, g1, g2⟩, D, d1, d2⟩ := H
  have k := fun x h1 h2 => F.2.2 x (hP x h1 h2)
  exact ⟨(k _ (by omega) (by omega)).trans e, ⟨O, (k _ (by omega) (by omega)).trans o1, o2⟩, ⟨G, (k _ (by omega) (by omega)).trans g1, g2⟩, D, (k _ (by omega) (by omega)).trans d1, d2⟩
theorem wk_is (H : wk_at h a o par dep sz seen) : jx_is (jx_at h a) 10 = true := by rw [H.1]; rfl
theorem wk_g0 (H : wk_at h a o par dep sz seen) : jx_gR (jx_at h a) 10 0 = some (a + 1) := by rw [H.1]; rfl
theorem wk_g1 (H : wk_at h a o par dep sz seen) : jx_gR (jx_at h a) 10 1 = some (a + 2) := by rw [H.1]; rfl
theorem wk_g2 (H : wk_at h a o par dep sz seen) : jx_gR (jx_at h a) 10 2 = some (a + 3) := by rw [H.1]; rfl
theorem wk_g3 (H : wk_at h a o par dep sz seen) : jx_gI (jx_at h a) 10 3 = some (Int32.ofNat sz) := by rw [H.1]; rfl
theorem wk_g4 (H : wk_at h a o par dep sz seen) : jx_gI (jx_at h a) 10 4 = some seen := by rw [H.1]; rfl
theorem wk_o (H : wk_at h a o par dep sz seen) (hs : sz ≤ 12) {i : Nat} (hi : i < sz) : jx_aI (jx_at h (a + 1)) 0 (Int32.ofNat i) = some (Int32.ofNat (o i)) := by
  obtain ⟨e, ⟨O, o1, o2⟩, ⟨G, g1, g2⟩, D, d1, d2⟩ := H
  rw [o1, jk_aI (by omega) (by decide), o2 i hi]
theorem wk_p (H : wk_at h a o par dep sz seen) {x : Nat} (hx : x < 12) (hb : bt seen x = true) : jx_aI (jx_at h (a + 2)) 0 (Int32.ofNat x) = some (jk_on (par x)) := by
  obtain ⟨e, ⟨O, o1, o2⟩, ⟨G, g1, g2⟩, D, d1, d2⟩ := H
  rw [g1, jk_aI hx (by decide), g2 x hx hb]
theorem wk_d (H : wk_at h a o par dep sz seen) {x : Nat} (hx : x < 12) (hb : bt seen x = true) : jx_aI (jx_at h (a + 3)) 0 (Int32.ofNat x) = some (Int32.ofNat (dep x)) := by
  obtain ⟨e, ⟨O, o1, o2⟩, ⟨G, g1, g2⟩, D, d1, d2⟩ := H
  rw [d1, jk_aI hx (by decide), d2 x hx hb]
theorem va_self {α : Type} (g : Nat → α) (k : Nat) (v : α) : va_up g k v k = v := by unfold va_up; rw [if_pos rfl]
theorem va_ne {α : Type} (g : Nat → α) {k j : Nat} (v : α) (hj : j ≠ k) : va_up g k v j = g j := by unfold va_up; rw [if_neg hj]
/-- enter() -/
theorem wk_enter (H : wk_at h a o par dep sz seen) (hs : sz < 12) {y : Nat} (hy : y < 12) (hp : Option Nat) (dd : Nat) : ∃ h', (∀ d, jx_C rc (d + 1) 322 [.ref a, .int (Int32.ofNat y), .int (jk_on hp), .int (Int32.ofNat dd)] h = some (none, h')) ∧ wk_at h' a (va_up o sz y) (va_up par y hp) (va_up dep y dd) (sz + 1) (seen ||| jk_bit y) ∧ Fr (jI a 4) h h' := by
  obtain ⟨e, ⟨O, o1, o2⟩, ⟨G, g1, g2⟩, D, d1, d2⟩ := id H
  let h1 := jx_set h (a + 1) (jxI 0 12 (upd O sz (Int32.ofNat y)))
  let h2 := jx_set h1 a (jxO 10 [.ref (a + 1), .ref (a + 2), .ref (a + 3), .int (Int32.ofNat (sz + 1)), .int seen])
  let h3 := jx_set h2 (a + 2) (jxI 0 12 (upd G y (jk_on hp)))
  let h4 := jx_set h3 (a + 3) (jxI 0 12 (upd D y (Int32.ofNat dd)))
  let h5 := jx_set h4 a (jxO 10 [.ref (a + 1), .ref (a + 2), .ref (a + 3), .int (Int32.ofNat (sz + 1)), .int (seen ||| jk_bit y)])
  have q1 : jx_at h1 a = jxO 10 [.ref (a + 1), .ref (a + 2), .ref (a + 3), .int (Int32.ofNat sz), .int seen] := by show jx_at (jx_set _ _ _) _ = _; rw [jk_at_ne _ _ (by omega)]; exact e
  have q2 : jx_at h2 a = jxO 10 [.ref (a + 1), .ref (a + 2), .ref (a + 3), .int (Int32.ofNat (sz + 1)), .int seen] := jk_at_self ..
  have q2g : jx_at h2 (a + 2) = jxI 0 12 G := by show jx_at (jx_set (jx_set _ _ _) _ _) _ = _; rw [jk_at_ne _ _ (by omega), jk_at_ne _ _ (by omega)]; exact g1
  have q3 : jx_at h3 a = jxO 10 [.ref (a + 1), .ref (a + 2), .ref (a + 3), .int (Int32.ofNat (sz + 1)), .int seen] := by show jx_at (jx_set h2 _ _) _ = _; rw [jk_at_ne _ _ (by omega)]; exact q2
  have q3d : jx_at h3 (a + 3) = jxI 0 12 D := by show jx_at (jx_set (jx_set (jx_set _ _ _) _ _) _ _) _ = _; rw [jk_at_ne _ _ (by omega), jk_at_ne _ _ (by omega), jk_at_ne _ _ (by omega)]; exact d1
  have q4 : jx_at h4 a = jxO 10 [.ref (a + 1), .ref (a + 2), .ref (a + 3), .int (Int32.ofNat (sz + 1)), .int seen] := by show jx_at (jx_set h3 _ _) _ = _; rw [jk_at_ne _ _ (by omega)]; exact q3
  refine ⟨h5, fun d => ?_, ⟨jk_at_self .., ⟨upd O sz (Int32.ofNat y), ?_, fun i hi => ?_⟩, ⟨upd G y (jk_on hp), ?_, fun x hx hb => ?_⟩, upd D y (Int32.ofNat dd), ?_, fun x hx hb => ?_⟩, ((((Fr.set (jI_0 (by decide))).cons ⟨Nat.le_refl _, by omega⟩).cons (jI_0 (by decide))).cons (jI_0 (by decide))).cons ⟨Nat.le_refl _, by omega⟩⟩
  · rw [je_322, if_pos (wk_is H), if_neg (jk_nn (by omega)), if_neg (jk_n12 hy), wk_g3 H, jk_bs, if_neg (jk_nn (by omega)), jk_bs, if_neg (jk_n12 hs), wk_g0 H, jk_bs, jk_bs, o1, jk_sI hs (by decide), jk_bs]
    show (jx_gI (jx_at h1 a) 10 3).bind _ = _
    rw [q1, show jx_gI (jxO 10 [Value.ref (a + 1), Value.ref (a + 2), Value.ref (a + 3), Value.int (Int32.ofNat sz), Value.int seen]) 10 3 = some (Int32.ofNat sz) from rfl, jk_bs]
    rw [jk_succ, show jx_pF (jxO 10 [Value.ref (a + 1), Value.ref (a + 2), Value.ref (a + 3), Value.int (Int32.ofNat sz), Value.int seen]) 10 3 (.int (Int32.ofNat (sz + 1))) = some (jxO 10 [Value.ref (a + 1), Value.ref (a + 2), Value.ref (a + 3), Value.int (Int32.ofNat (sz + 1)), Value.int seen]) from rfl, jk_bs]
    show (jx_gR (jx_at h2 a) 10 1).bind _ = _
    rw [q2, show jx_gR (jxO 10 [Value.ref (a + 1), Value.ref (a + 2), Value.ref (a + 3), Value.int (Int32.ofNat (sz + 1)), Value.int seen]) 10 1 = some (a + 2) from rfl, jk_bs]
    show (jx_sI (jx_at h2 (a + 2)) 0 _ _).bind _ = _
    rw [q2g, jk_sI hy (by decide), jk_bs]
    show (jx_gR (jx_at h3 a) 10 2).bind _ = _
    rw [q3, show jx_gR (jxO 10 [Value.ref (a + 1), Value.ref (a + 2), Value.ref (a + 3), Value.int (Int32.ofNat (sz + 1)), Value.int seen]) 10 2 = some (a + 3) from rfl, jk_bs]
    show (jx_sI (jx_at h3 (a + 3)) 0 _ _).bind _ = _
    rw [q3d, jk_sI hy (by decide), jk_bs]
    show (jx_gI (jx_at h4 a) 10 4).bind _ = _
    rw [q4]
    rfl
  · show jx_at (jx_set (jx_set (jx_set (jx_set (jx_set _ _ _) _ _) _ _) _ _) _ _) _ = _
    rw [jk_at_ne _ _ (by omega), jk_at_ne _ _ (by omega), jk_at_ne _ _ (by omega), jk_at_ne _ _ (by omega), jk_at_self]
  · by_cases q : i = sz
    · subst q; rw [upd_at, va_self]
    · rw [upd_ne _ _ q, va_ne _ _ q, o2 i (by omega)]
  · show jx_at (jx_set (jx_set (jx_set _ _ _) _ _) _ _) _ = _
    rw [jk_at_ne _ _ (by omega), jk_at_ne _ _ (by omega), jk_at_self]
  · by_cases q : x = y
    · subst q; rw [upd_at, va_self]
    · rw [bt_set _ hy hx] at hb
      simp [q] at hb
      rw [upd_ne _ _ q, va_ne _ _ q, g2 x hx hb]
  · show jx_at (jx_set (jx_set _ _ _) _ _) _ = _
    rw [jk_at_ne _ _ (by omega), jk_at_self]
  · by_cases q : x = y
    · subst q; rw [upd_at, va_self]
    · rw [bt_set _ hy hx] at hb
      simp [q] at hb
      rw [upd_ne _ _ q, va_ne _ _ q, d2 x hx hb]
theorem wk_depthAt (H : wk_at h a o par dep sz seen) {x : Nat} (hx : x < 12) (hb : bt seen x = true) (d : Nat) : jx_C rc (d + 1) 325 [.ref a, .int (Int32.ofNat x)] h = some (some (.int (Int32.ofNat (dep x))), h) := by
  rw [je_325, if_pos (wk_is H), if_neg (jk_nn (by omega)), if_neg (jk_n12 hx), wk_g2 H, jk_bs, wk_d H hx hb, jk_bs]
theorem wk_holderOf (H : wk_at h a o par dep sz seen) {x : Nat} (hx : x < 12) (hb : bt seen x = true) (d : Nat) : jx_C rc (d + 1) 324 [.ref a, .int (Int32.ofNat x)] h = some (some (.int (jk_on (par x))), h) := by
  rw [je_324, if_pos (wk_is H), if_neg (jk_nn (by omega)), if_neg (jk_n12 hx), wk_g1 H, jk_bs, wk_p H hx hb, jk_bs]
theorem wk_holderOf_no (H : wk_at h a o par dep sz seen) (d : Nat) : jx_C rc (d + 1) 324 [.ref a, .int (-1)] h = some (some (.int (-1)), h) := by
  rw [je_324, if_pos (wk_is H), if_pos (by decide)]
theorem wk_placeAt (H : wk_at h a o par dep sz seen) (hs : sz ≤ 12) {i : Nat} (hi : i < 2 ^ 31) (d : Nat) : jx_C rc (d + 1) 323 [.ref a, .int (Int32.ofNat i)] h = some (some (.int (if i < sz then Int32.ofNat (o i) else -1)), h) := by
  rw [je_323, if_pos (wk_is H), if_neg (jk_nn hi), wk_g3 H, jk_bs]
  by_cases q : i < sz
  · rw [if_neg (by rw [jk_le (by omega) hi]; omega), if_neg (by rw [jk_12 hi]; omega), wk_g0 H, jk_bs, wk_o H hs q, jk_bs, if_pos q]
  · rw [if_pos (by rw [jk_le (by omega) hi]; omega), if_neg q]
/-- what one looks at around a vertex -/
theorem wk_inner {J : (Nat → Nat) → (Nat → Option Nat) → (Nat → Nat) → Nat → Int32 → Nat → Prop}
    (hbase : ∀ {o par dep sz seen pr}, J o par dep sz seen pr → sz ≤ 12 ∧ pr ≤ sz ∧ (∀ i, i < sz → o i < 12 ∧ bt seen (o i) = true))
    (hadd : ∀ {o par dep sz seen pr y}, J o par dep sz seen pr → pr < sz → y < 12 → bt set y = true → bt seen y = false → bt (f.2.1 (o pr)) y = true → sz < 12 ∧ J (va_up o sz y) (va_up par y (some (o pr))) (va_up dep y (dep (o pr) + 1)) (sz + 1) (seen ||| jk_bit y) pr)
    (G : fo_at h b f) (hab : b + 3 ≤ a ∨ a + 4 ≤ b) {F : Int32} {p pr : Nat} (hF : ∀ q, bt F q = true → bt set q = true ∧ bt (f.2.1 p) q = true) :
    ∀ (m k : Nat) (h : jxH) (o : Nat → Nat) (par : Nat → Option Nat) (dep : Nat → Nat) (sz : Nat) (seen : Int32), k + m = 12 → wk_at h a o par dep sz seen → J o par dep sz seen pr → pr < sz → o pr = p → (∀ q, k ≤ q → q < 12 → bt F q = true → bt seen q = false) → (∀ q, q < k → bt F q = true → bt seen q = true) →
    ∃ h' o' par' dep' sz' seen', (∀ d, jb_321 rc (d + 1) 35 [(0, .ref a), (1, .ref b), (2, .int set), (5, .int (Int32.ofNat pr)), (6, .int (Int32.ofNat p)), (7, .int F), (8, .int (Int32.ofNat k))] [] h = jb_321 rc (d + 1) 10 [(0, .ref a), (1, .ref b), (2, .int set), (5, .int (Int32.ofNat (pr + 1)))] [] h') ∧ wk_at h' a o' par' dep' sz' seen' ∧ J o' par' dep' sz' seen' pr ∧ pr < sz' ∧ o' pr = p ∧ (∀ q, q < 12 → bt F q = true → bt seen' q = true) ∧ (∀ q, bt seen q = true → bt seen' q = true) ∧ Fr (jI a 4) h h'
  | 0, k, h, o, par, dep, sz, seen, e, H, j, h1, h2, h3, h4 => by
    obtain rfl : k = 12 := by omega
    refine ⟨h, o, par, dep, sz, seen, fun d => ?_, H, j, h1, h2, h4, fun _ q => q, Fr.rfl⟩
    rw [je_321_35, if_pos (by decide), jk_succ]
  | m + 1, k, h, o, par, dep, sz, seen, e, H, j, h1, h2, h3, h4 => by
    have hk : k < 12 := by omega
    by_cases hb : bt F k = true
    · have hns := h3 k (Nat.le_refl _) hk hb
      obtain ⟨s1, s2⟩ := hF k hb
      obtain ⟨b1, b2, b3⟩ := hbase j
      obtain ⟨p12, pseen⟩ := b3 pr h1
      obtain ⟨hs, j'⟩ := hadd j h1 hk s1 hns (by rw [h2]; exact s2)
      obtain ⟨h5, e1, e2, e3⟩ := wk_enter (rc := rc) H hs hk (some (o pr)) (dep (o pr) + 1)
      obtain ⟨h', o', par', dep', sz', seen', i1, i2, i3, i4, i5, i6, i7, i8⟩ := wk_inner (J := J) hbase hadd G hab hF m (k + 1) h5 _ _ _ _ _ (by omega) e2 j' (by omega) (by rw [va_ne _ _ (by omega)]; exact h2) (fun q q1 q2 q3 => by
        rw [bt_set _ hk q2, h3 q (by omega) q2 q3]; simp; omega) (fun q q1 q2 => by
        rw [bt_set _ hk (by omega)]
        by_cases z : q = k
        · simp [z]
        · rw [h4 q (by omega) q2]; rfl)
      refine ⟨h', o', par', dep', sz', seen', fun d => ?_, i2, i3, i4, i5, i6, fun q q1 => i7 q (by rw [bt_or, q1]; rfl), e3.trans i8⟩
      rw [je_321_35, if_neg (jk_n12 hk), cl_isIn, jk_cI, jp_in_of hk, jk_if0, if_pos hb]
      have pd : jx_C rc (d + 1) 325 [.ref a, .int (Int32.ofNat p)] h = some (some (.int (Int32.ofNat (dep (o pr)))), h) := by rw [← h2]; exact wk_depthAt H p12 pseen d
      rw [pd, jk_cI, jk_succ, jk_succ]
      have pe := e1 d
      rw [show jk_on (some (o pr)) = Int32.ofNat p by rw [h2]; rfl] at pe
      rw [pe, jk_cV]
      exact i1 d
    · obtain ⟨h', o', par', dep', sz', seen', i1, i2⟩ := wk_inner (J := J) hbase hadd G hab hF m (k + 1) h o par dep sz seen (by omega) H j h1 h2 (fun q q1 q2 q3 => h3 q (by omega) q2 q3) (fun q q1 q2 => by
        by_cases z : q = k
        · rw [z] at q2; exact absurd q2 hb
        · exact h4 q (by omega) q2)
      refine ⟨h', o', par', dep', sz', seen', fun d => ?_, i2⟩
      rw [je_321_35, if_neg (jk_n12 hk), cl_isIn, jk_cI, jp_in_of hk, jk_if0, if_neg hb, jk_succ]
      exact i1 d
theorem wk_spread_l {J : (Nat → Nat) → (Nat → Option Nat) → (Nat → Nat) → Nat → Int32 → Nat → Prop}
    (hbase : ∀ {o par dep sz seen pr}, J o par dep sz seen pr → sz ≤ 12 ∧ pr ≤ sz ∧ (∀ i, i < sz → o i < 12 ∧ bt seen (o i) = true))
    (hadd : ∀ {o par dep sz seen pr y}, J o par dep sz seen pr → pr < sz → y < 12 → bt set y = true → bt seen y = false → bt (f.2.1 (o pr)) y = true → sz < 12 ∧ J (va_up o sz y) (va_up par y (some (o pr))) (va_up dep y (dep (o pr) + 1)) (sz + 1) (seen ||| jk_bit y) pr)
    (hadv : ∀ {o par dep sz seen pr}, J o par dep sz seen pr → pr < sz → (∀ y, bt (f.2.1 (o pr)) y = true → bt set y = true → bt seen y = true) → J o par dep sz seen (pr + 1))
    (hn : ∀ k, k < 12 → S12 (f.2.1 k)) (hab : b + 3 ≤ a ∨ a + 4 ≤ b) :
    ∀ (m pr : Nat) (h : jxH) (o : Nat → Nat) (par : Nat → Option Nat) (dep : Nat → Nat) (sz : Nat) (seen : Int32), pr + m = 12 → fo_at h b f → wk_at h a o par dep sz seen → J o par dep sz seen pr →
    ∃ h' o' par' dep' sz' seen', (∀ d, jb_321 rc (d + 1) 10 [(0, .ref a), (1, .ref b), (2, .int set), (5, .int (Int32.ofNat pr))] [] h = some (none, h')) ∧ wk_at h' a o' par' dep' sz' seen' ∧ J o' par' dep' sz' seen' sz' ∧ (∀ q, bt seen q = true → bt seen' q = true) ∧ Fr (jI a 4) h h'
  | m, pr, h, o, par, dep, sz, seen, e, G, H, j => by
    obtain ⟨b1, b2, b3⟩ := hbase j
    by_cases hs : pr < sz
    · obtain ⟨p12, pseen⟩ := b3 pr hs
      have bF : ∀ q, bt ((f.2.1 (o pr) &&& set) &&& (seen ^^^ (-1))) q = true → bt set q = true ∧ bt (f.2.1 (o pr)) q = true := fun q hq => by
        rw [bt_and, bt_and, Bool.and_eq_true, Bool.and_eq_true] at hq; exact ⟨hq.1.2, hq.1.1⟩
      obtain ⟨h', o', par', dep', sz', seen', i1, i2, i3, i4, i5, i6, i7, i8⟩ := wk_inner (rc := rc) (J := J) hbase hadd G hab (F := (f.2.1 (o pr) &&& set) &&& (seen ^^^ (-1))) (p := o pr) (pr := pr) bF 12 0 h o par dep sz seen (by omega) H j hs rfl (fun q _ q2 q3 => by
        rw [bt_and, Bool.and_eq_true, bt_not _ (by omega)] at q3
        simpa using q3.2) (fun q q1 _ => by omega)
      have j' := hadv i3 i4 (fun y hy1 hy2 => by
        rw [i5] at hy1
        have y12 : y < 12 := by
          apply Classical.byContradiction; intro z
          rw [hn _ p12 y (by omega)] at hy1; cases hy1
        cases z : bt seen y
        · exact i6 y y12 (by rw [bt_and, bt_and, hy1, hy2, bt_not _ (by omega), z]; rfl)
        · exact i7 y z)
      match m with
      | 0 => omega
      | m + 1 =>
        obtain ⟨h2, o2, par2, dep2, sz2, seen2, k1, k2, k3, k4, k5⟩ := wk_spread_l (J := J) hbase hadd hadv hn hab m (pr + 1) h' o' par' dep' sz' seen' (by omega) (fo_fr i8 (fun x q1 q2 z => by unfold jI at z; omega) G) i2 j'
        refine ⟨h2, o2, par2, dep2, sz2, seen2, fun d => ?_, k2, k3, fun q q1 => k4 q (i7 q q1), i8.trans k5⟩
        rw [je_321_10, wk_g3 H, jk_bs, if_neg (by rw [jk_le (by omega) (by omega)]; omega), if_neg (jk_n12 (by omega)), wk_g0 H, jk_bs, wk_o H b1 hs, jk_bs, fo_nearsAt G, jk_cI, jF_n_of p12, wk_g4 H, jk_bs]
        refine (i1 d).trans ?_
        exact k1 d
    · have e1 : pr = sz := by omega
      refine ⟨h, o, par, dep, sz, seen, fun d => ?_, H, e1 ▸ j, fun _ q => q, Fr.rfl⟩
      rw [je_321_10, wk_g3 H, jk_bs, if_pos (by rw [jk_le (by omega) (by omega)]; omega)]
end
