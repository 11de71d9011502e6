/-! The class's minor: folded from the leaves to the roots -/
def eR (e : Nat → Nat → Int) (R : Nat → Int) (x y : Nat) : Int := e x y * (R x * R y)
theorem mx_s_0 {F : Nat → Int} {l : List Nat} (h : ∀ q ∈ l, F q = 0) : mx_s F l = 0 := by rw [mx_s_congr (g := fun _ => 0) h, mx_s_zero]
theorem mx_s_one {F : Nat → Int} : ∀ {l : List Nat} {q : Nat}, l.Nodup → q ∈ l → (∀ s ∈ l, s ≠ q → F s = 0) → mx_s F l = F q
  | [], q, _, h, _ => by cases h
  | a :: l, q, hn, hq, h => by
    rw [List.nodup_cons] at hn
    show F a + mx_s F l = F q
    rcases List.mem_cons.mp hq with e | hq
    · subst e
      rw [mx_s_0 (fun s hs => h s (List.mem_cons_of_mem q hs) fun z => hn.1 (z ▸ hs))]; omega
    · have : a ≠ q := fun z => hn.1 (z ▸ hq)
      rw [h a List.mem_cons_self this, mx_s_one hn.2 hq (fun s hs => h s (List.mem_cons_of_mem a hs))]; omega
theorem erase_last {l : List Nat} {p : Nat} (h : p ∉ l) : (l ++ [p]).erase p = l := by
  rw [List.erase_append_right _ h, List.erase_cons_head, List.append_nil]
theorem mx_root {w : Nat → Int} {e : Nat → Nat → Int} (hs : ∀ a b, e a b = e b a) {l : List Nat} {p : Nat} (hn : (l ++ [p]).Nodup) (h0 : ∀ q ∈ l, e p q = 0) : mx_p w e (l ++ [p]) = w p * mx_p w e l := by
  have hp : p ∉ l := fun q => (List.nodup_append.mp hn).2.2 p q p (by simp) rfl
  rw [mx_p_at w e hs hn (p := p) (by simp), erase_last hp, mx_s_0 (fun q hq => by rw [h0 q hq, Int.zero_mul])]
  omega
theorem mx_leaf {e : Nat → Nat → Int} (hs : ∀ a b, e a b = e b a) (T R : Nat → Int) {l : List Nat} {p q : Nat} (hn : (l ++ [p]).Nodup) (hq : q ∈ l) (h1 : e p q = 1) (h0 : ∀ s ∈ l, s ≠ q → e p s = 0) :
    mx_p T (eR e R) (l ++ [p]) = mx_p (fun x => if x = q then T q * T p - R q * R p else T x) (eR e (fun x => if x = q then R q * T p else R x)) l := by
  have hl : l.Nodup := (List.nodup_append.mp hn).1
  have hp : p ∉ l := fun q => (List.nodup_append.mp hn).2.2 p q p (by simp) rfl
  have sR : ∀ R : Nat → Int, ∀ a b, eR e R a b = eR e R b a := fun R a b => by unfold eR; rw [hs a b, Int.mul_comm (R a)]
  have hle : (l.erase q).Nodup := hl.erase q
  have ne : ∀ x ∈ l.erase q, x ≠ q := fun x hx z => by
    subst z
    exact (List.Nodup.not_mem_erase hl) hx
  rw [mx_p_at _ _ (sR R) hn (p := p) (by simp), erase_last hp,
    mx_s_one hl hq (fun s hs1 hs2 => by unfold eR; rw [h0 s hs1 hs2, Int.zero_mul, Int.zero_mul]),
    mx_p_at T (eR e R) (sR R) hl hq,
    mx_p_at (fun x => if x = q then T q * T p - R q * R p else T x) (eR e (fun x => if x = q then R q * T p else R x)) (sR _) hl hq]
  rw [mx_p_congr (w := fun x => if x = q then T q * T p - R q * R p else T x) (w' := T) (e := eR e (fun x => if x = q then R q * T p else R x)) (e' := eR e R) (l := l.erase q) (fun a ha => if_neg (ne a ha)) (fun a ha b hb => by unfold eR; dsimp only; rw [if_neg (ne a ha), if_neg (ne b hb)])]
  rw [mx_s_congr (f := fun s => eR e (fun x => if x = q then R q * T p else R x) q s * mx_p (fun x => if x = q then T q * T p - R q * R p else T x) (eR e (fun x => if x = q then R q * T p else R x)) ((l.erase q).erase s)) (g := fun s => T p * (eR e R q s * mx_p T (eR e R) ((l.erase q).erase s))) (fun s hs1 => by
    rw [mx_p_congr (w := fun x => if x = q then T q * T p - R q * R p else T x) (w' := T) (e := eR e (fun x => if x = q then R q * T p else R x)) (e' := eR e R) (l := (l.erase q).erase s) (fun a ha => if_neg (ne a (List.mem_of_mem_erase ha))) (fun a ha b hb => by unfold eR; dsimp only; rw [if_neg (ne a (List.mem_of_mem_erase ha)), if_neg (ne b (List.mem_of_mem_erase hb))])]
    unfold eR
    dsimp only
    rw [if_pos rfl, if_neg (ne s hs1)]
    simp only [Int.mul_assoc, Int.mul_comm, Int.mul_left_comm])]
  rw [mx_s_mul]
  unfold eR
  rw [h1]
  simp only [if_true]
  generalize mx_p T _ (l.erase q) = X
  generalize mx_s _ (l.erase q) = Y
  rw [Int.one_mul, Int.sub_mul, Int.mul_sub]
  have a1 : T p * (T q * X) = T q * T p * X := by rw [← Int.mul_assoc, Int.mul_comm (T p)]
  rw [a1, Int.mul_comm (R p) (R q)]
  omega
/-- ints as longs -/
def lI (T : Nat → Int) : Nat → Int64 := fun p => Int64.ofInt (T p)
def rk_T (h : jxH) (a : Nat) (T R : Nat → Int64) : Prop := (∃ g, jx_at h (a + 5) = jxL 12 g ∧ ∀ p, p < 12 → g p = T p) ∧ ∃ g, jx_at h (a + 6) = jxL 12 g ∧ ∀ p, p < 12 → g p = R p
def rk_O (h : jxH) (a : Nat) : Prop := ∃ (u l : Int64) (i1 i2 i3 i4 i5 i6 : Int32), jx_at h a = jxO 2 [.ref (a + 1), .ref (a + 5), .ref (a + 6), .ref (a + 7), .long u, .long l, .int i1, .int i2, .int i3, .int i4, .int i5, .int i6]
section
variable {rc : Nat → Nat × (Nat → Int32)} {h : jxH} {a b : Nat} {f : jF} {T R : Nat → Int64}
theorem rk_is (H : rk_O h a) : jx_is (jx_at h a) 2 = true := by obtain ⟨u, l, i1, i2, i3, i4, i5, i6, e⟩ := H; rw [e]; rfl
theorem rk_g0 (H : rk_O h a) : jx_gR (jx_at h a) 2 0 = some (a + 1) := by obtain ⟨u, l, i1, i2, i3, i4, i5, i6, e⟩ := H; rw [e]; rfl
theorem rk_g1 (H : rk_O h a) : jx_gR (jx_at h a) 2 1 = some (a + 5) := by obtain ⟨u, l, i1, i2, i3, i4, i5, i6, e⟩ := H; rw [e]; rfl
theorem rk_g2 (H : rk_O h a) : jx_gR (jx_at h a) 2 2 = some (a + 6) := by obtain ⟨u, l, i1, i2, i3, i4, i5, i6, e⟩ := H; rw [e]; rfl
theorem rk_g3 (H : rk_O h a) : jx_gR (jx_at h a) 2 3 = some (a + 7) := by obtain ⟨u, l, i1, i2, i3, i4, i5, i6, e⟩ := H; rw [e]; rfl
theorem rk_set (H : rk_O h a) {x : Nat} {e : jxE} (hx : a ≠ x) : rk_O (jx_set h x e) a := by
  obtain ⟨u, l, i1, i2, i3, i4, i5, i6, e'⟩ := H
  exact ⟨u, l, i1, i2, i3, i4, i5, i6, by rw [jk_at_ne _ _ hx]; exact e'⟩
theorem rk_t (H : rk_T h a T R) {p : Nat} (hp : p < 12) : jx_aL (jx_at h (a + 5)) (Int32.ofNat p) = some (T p) := by
  obtain ⟨⟨g, e, k⟩, -⟩ := H
  rw [e, jk_aL hp (by decide), k p hp]
theorem rk_r (H : rk_T h a T R) {p : Nat} (hp : p < 12) : jx_aL (jx_at h (a + 6)) (Int32.ofNat p) = some (R p) := by
  obtain ⟨-, g, e, k⟩ := H
  rw [e, jk_aL hp (by decide), k p hp]
theorem updL_at (f : Nat → Int64) (k : Nat) (x : Int64) : vp_updL f k x k = x := by unfold vp_updL; rw [if_pos rfl]
theorem updL_ne (f : Nat → Int64) {k j : Nat} (x : Int64) (h : j ≠ k) : vp_updL f k x j = f j := by unfold vp_updL; rw [if_neg h]
theorem rk_st (H : rk_T h a T R) {p : Nat} (hp : p < 12) (x : Int64) : ∃ e, jx_sL (jx_at h (a + 5)) (Int32.ofNat p) x = some e ∧ rk_T (jx_set h (a + 5) e) a (vp_updL T p x) R := by
  obtain ⟨⟨g, e, k⟩, g', e', k'⟩ := H
  refine ⟨jxL 12 (vp_updL g p x), by rw [e, jk_sL hp (by decide)], ⟨_, jk_at_self .., fun q hq => ?_⟩, g', by rw [jk_at_ne _ _ (by omega)]; exact e', k'⟩
  unfold vp_updL; split
  · rfl
  · exact k q hq
theorem rk_sr (H : rk_T h a T R) {p : Nat} (hp : p < 12) (x : Int64) : ∃ e, jx_sL (jx_at h (a + 6)) (Int32.ofNat p) x = some e ∧ rk_T (jx_set h (a + 6) e) a T (vp_updL R p x) := by
  obtain ⟨⟨g, e, k⟩, g', e', k'⟩ := H
  refine ⟨jxL 12 (vp_updL g' p x), by rw [e', jk_sL hp (by decide)], ⟨g, by rw [jk_at_ne _ _ (by omega)]; exact e, k⟩, _, jk_at_self .., fun q hq => ?_⟩
  unfold vp_updL; split
  · rfl
  · exact k' q hq
theorem cl_left0 (x : Int64) (d : Nat) : jx_C rc (d + 1) 252 [.long x, .int 0] h = some (some (.long x), h) := by rw [je_252, if_pos (by decide)]
/-- start(): by what is left of a number, lf -/
theorem rk_start_l (hab : b + 3 ≤ a ∨ a + 8 ≤ b) {pr : Int32} {lf : Int64 → Int64} (hl : ∀ (x : Int64) (d : Nat) (h : jxH), jx_C rc (d + 2) 252 [.long x, .int pr] h = some (some (.long (lf x)), h)) : ∀ (m k : Nat) (h : jxH) (T R : Nat → Int64), k + m = 12 → rk_O h a → fo_at h b f → rk_T h a T R → (∀ p, p < k → T p = lf (f.1 p).toInt64 ∧ R p = 1) → ∃ h', (∀ d, jb_250 rc (d + 2) 2 [(0, .ref a), (1, .ref b), (2, .int pr), (3, .int (Int32.ofNat k))] [] h = some (none, h')) ∧ rk_O h' a ∧ rk_T h' a (fun p => lf (f.1 p).toInt64) (fun _ => 1) ∧ Fr (fun x => x = a + 5 ∨ x = a + 6) h h'
  | 0, k, h, T, R, e, O, G, H, hk => by
    obtain rfl : k = 12 := by omega
    obtain ⟨⟨g, e1, k1⟩, g', e2, k2⟩ := H
    exact ⟨h, fun d => by rw [je_250_2]; rfl, O, ⟨⟨g, e1, fun p hp => (k1 p hp).trans (hk p hp).1⟩, g', e2, fun p hp => (k2 p hp).trans (hk p hp).2⟩, Fr.rfl⟩
  | m + 1, k, h, T, R, e, O, G, H, hk => by
    have k12 : k < 12 := by omega
    obtain ⟨e1, i1, j1⟩ := rk_st H k12 (lf (f.1 k).toInt64)
    obtain ⟨e2, i2, j2⟩ := rk_sr j1 k12 1
    have F1 : Fr (fun x => x = a + 5 ∨ x = a + 6) h (jx_set (jx_set h (a + 5) e1) (a + 6) e2) := (Fr.set (Or.inl rfl)).cons (Or.inr rfl)
    obtain ⟨h', r1, r2, r3, r4⟩ := rk_start_l hab hl m (k + 1) _ _ _ (by omega) (rk_set (rk_set O (by omega)) (by omega)) (fo_fr F1 (fun x q1 q2 => by omega) G) j2 (fun p hp => by
      by_cases q : p = k
      · subst q; rw [updL_at, updL_at]; exact ⟨rfl, rfl⟩
      · rw [updL_ne _ _ q, updL_ne _ _ q]; exact hk p (by omega))
    refine ⟨h', fun d => ?_, r2, r3, F1.trans r4⟩
    rw [je_250_2, if_neg (jk_n12 k12), rk_g1 O, jk_bs, fo_weightAt G, jk_cI, jF_w_of k12, hl, jk_cL, i1, jk_bs, rk_g2 (rk_set O (by omega)), jk_bs, i2, jk_bs, jk_succ]
    exact r1 d
theorem rk_start (hab : b + 3 ≤ a ∨ a + 8 ≤ b) {pr : Int32} {lf : Int64 → Int64} (hl : ∀ (x : Int64) (d : Nat) (h : jxH), jx_C rc (d + 2) 252 [.long x, .int pr] h = some (some (.long (lf x)), h)) (O : rk_O h a) (G : fo_at h b f) (H : rk_T h a T R) : ∃ h', (∀ d, jx_C rc (d + 3) 250 [.ref a, .ref b, .int pr] h = some (none, h')) ∧ rk_O h' a ∧ rk_T h' a (fun p => lf (f.1 p).toInt64) (fun _ => 1) ∧ Fr (fun x => x = a + 5 ∨ x = a + 6) h h' := by
  obtain ⟨h', r1, r2⟩ := rk_start_l (rc := rc) hab hl 12 0 h T R (by omega) O G H (fun p hp => by omega)
  exact ⟨h', fun d => by rw [je_250, if_pos (rk_is O)]; exact r1 d, r2⟩
/-- fold() -/
theorem rk_fold {pr : Int32} {lf : Int64 → Int64} (hl : ∀ (x : Int64) (d : Nat) (h : jxH), jx_C rc (d + 2) 252 [.long x, .int pr] h = some (some (.long (lf x)), h)) (O : rk_O h a) (H : rk_T h a T R) {p q : Nat} (hp : p < 12) (hq : q < 12) (hpq : p ≠ q) : ∃ h', (∀ d, jx_C rc (d + 3) 251 [.ref a, .int (Int32.ofNat p), .int (Int32.ofNat q), .int pr] h = some (none, h')) ∧ rk_O h' a ∧ rk_T h' a (vp_updL T q (lf (T q * T p - R q * R p))) (vp_updL R q (lf (R q * T p))) ∧ Fr (fun x => x = a + 5 ∨ x = a + 6) h h' := by
  obtain ⟨e1, i1, j1⟩ := rk_st H hq (lf (T q * T p - R q * R p))
  obtain ⟨e2, i2, j2⟩ := rk_sr j1 hq (lf (R q * T p))
  refine ⟨_, fun d => ?_, rk_set (rk_set O (by omega)) (by omega), j2, (Fr.set (Or.inl rfl)).cons (Or.inr rfl)⟩
  rw [je_251, if_pos (rk_is O), cl_isPlace, jk_cI, jp_place_of hp, jk_if0, if_pos rfl, cl_isPlace, jk_cI, jp_place_of hq, jk_if0, if_pos rfl, rk_g1 O, jk_bs, jk_bs, rk_t H hq, jk_bs, jk_bs, rk_t H hp, jk_bs, rk_g2 O, jk_bs, rk_r H hq, jk_bs, jk_bs, rk_r H hp, jk_bs, hl, jk_cL, i1, jk_bs, rk_g2 (rk_set O (by omega)), jk_bs, jk_bs, rk_r j1 hq, jk_bs, rk_g1 (rk_set O (by omega)), jk_bs, rk_t j1 hp, jk_bs, updL_ne _ _ hpq, hl, jk_cL, i2]
  rfl
theorem ee_sym (B : jf_B f) {x y : Nat} (hx : x < 12) (hy : y < 12) : ee f x y = ee f y x := by unfold ee; rw [B.sym hx hy]
/-- edges among the places alone -/
def ec (f : jF) (x y : Nat) : Int := if x < 12 ∧ y < 12 then ee f x y else 0
theorem ec_sym (B : jf_B f) (x y : Nat) : ec f x y = ec f y x := by
  unfold ec
  by_cases h : x < 12 ∧ y < 12
  · rw [if_pos h, if_pos ⟨h.2, h.1⟩, ee_sym B h.1 h.2]
  · rw [if_neg h, if_neg (fun q => h ⟨q.2, q.1⟩)]
theorem MP_ec (f : jF) (S : Int32) : MP f S = mx_p (ew f) (ec f) (sl S) := mx_p_congr (fun _ _ => rfl) fun a ha b hb => by
  unfold ec; rw [if_pos ⟨(sl_mem.mp ha).1, (sl_mem.mp hb).1⟩]
def pl (o : Nat → Nat) (n : Nat) : List Nat := (List.range n).map o
theorem pl_succ (o : Nat → Nat) (n : Nat) : pl o (n + 1) = pl o n ++ [o n] := by unfold pl; rw [List.range_succ, List.map_append]; rfl
theorem pl_mem {o : Nat → Nat} {n x : Nat} : x ∈ pl o n ↔ ∃ i, i < n ∧ o i = x := by
  unfold pl
  rw [List.mem_map]
  constructor
  · rintro ⟨i, h1, h2⟩; exact ⟨i, List.mem_range.mp h1, h2⟩
  · rintro ⟨i, h1, h2⟩; exact ⟨i, List.mem_range.mpr h1, h2⟩
theorem pl_nodup {o : Nat → Nat} : ∀ {n : Nat}, (∀ i j, i < n → j < n → o i = o j → i = j) → (pl o n).Nodup
  | 0, _ => List.nodup_nil
  | n + 1, h => by
    rw [pl_succ, List.nodup_append]
    refine ⟨pl_nodup (fun i j hi hj => h i j (by omega) (by omega)), by simp, fun x hx y hy e => ?_⟩
    obtain ⟨i, i1, i2⟩ := pl_mem.mp hx
    simp at hy
    have := h i n (by omega) (by omega) (by rw [i2, e, hy])
    omega
theorem pl_sl {set : Int32} {o : Nat → Nat} {par : Nat → Option Nat} {sz : Nat} (O : wk_O f set o par sz) : (pl o sz).Perm (sl set) := by
  obtain ⟨a1, a2, a3, a4, -⟩ := O
  apply (List.perm_ext_iff_of_nodup (pl_nodup a4) (sl_nodup set)).mpr
  intro x
  rw [pl_mem, sl_mem]
  constructor
  · rintro ⟨i, h1, rfl⟩; exact a2 i h1
  · rintro ⟨_, h2⟩; exact a3 x h2
/-- the loop over the order, from its end -/
theorem rk_minor_l (B : jf_B f) {set : Int32} {o : Nat → Nat} {par : Nat → Option Nat} {dep : Nat → Nat} {sz : Nat} (K : wk_O f set o par sz) : ∀ (n : Nat) (h : jxH) (T R : Nat → Int) (P : Int), n ≤ 12 → rk_O h a → wk_at h (a + 1) o par dep sz set → rk_T h a (lI T) (lI R) → ∃ h', (∀ d, jb_249 rc (d + 3) 13 [(0, .ref a), (3, .long (Int64.ofInt P)), (5, .int (Int32.ofNat n + (-1)))] [] h = some (some (.long (Int64.ofInt (P * mx_p T (eR (ec f) R) (pl o (min n sz))))), h')) ∧ rk_O h' a ∧ wk_at h' (a + 1) o par dep sz set ∧ (∃ T' R', rk_T h' a T' R') ∧ Fr (fun x => x = a + 5 ∨ x = a + 6) h h'
  | 0, h, T, R, P, hn, O, H, K1 => by
    refine ⟨h, fun d => ?_, O, H, ⟨_, _, K1⟩, Fr.rfl⟩
    rw [je_249_13, if_pos (by decide), Nat.zero_min]
    show some (some (Value.long (Int64.ofInt P)), h) = some (some (Value.long (Int64.ofInt (P * 1))), h)
    rw [Int.mul_one]
  | n + 1, h, T, R, P, hn, O, H, K1 => by
    obtain ⟨a1, a2, a3, a4, a5, a6⟩ := id K
    have s12 : sz ≤ 12 := by have := bc_le set; omega
    by_cases q : n < sz
    · obtain ⟨p12, ps⟩ := a2 n q
      have e0 : pl o (min (n + 1) sz) = pl o n ++ [o n] := by rw [show min (n + 1) sz = n + 1 by omega, pl_succ]
      have e1 : min n sz = n := by omega
      have nd : (pl o n ++ [o n]).Nodup := by rw [← pl_succ]; exact pl_nodup (fun i j hi hj => a4 i j (by omega) (by omega))
      have others : ∀ s ∈ pl o n, par (o n) ≠ some s → ec f (o n) s = 0 := fun s hs hne => by
        obtain ⟨j, j1, rfl⟩ := pl_mem.mp hs
        unfold ec
        split
        · rename_i z
          unfold ee
          cases w : bt (f.2.1 (o n)) (o j)
          · rfl
          · exact absurd (a6 n j j1 q (by rw [B.sym z.2 z.1]; exact w)) hne
        · rfl
      cases hp : par (o n) with
      | none =>
        obtain ⟨h', r1, r2⟩ := rk_minor_l B K n h T R (P * T (o n)) (by omega) O H K1
        rw [e1] at r1
        refine ⟨h', fun d => ?_, r2⟩
        rw [e0, mx_root (fun x y => by unfold eR; rw [ec_sym B, Int.mul_comm (R x)]) nd (fun s hs => by unfold eR; rw [others s hs (by rw [hp]; intro z; cases z), Int.zero_mul]), ← Int.mul_assoc]
        rw [je_249_13, jk_dec, if_neg (jk_nn (by omega)), rk_g0 O, jk_bs, wk_placeAt H s12 (by omega), jk_cI, if_pos q, rk_g0 O, jk_bs, wk_holderOf H p12 ps, jk_cI, cl_isPlace, jk_cI, jp_place_of p12, jk_if0, if_pos rfl, cl_isPlace, jk_cI, hp, show jp_place (jk_on none) = false from by decide, jk_if0, if_neg (by decide), cl_isPlace, jk_cI, jp_place_of p12, jk_if0, if_pos rfl, rk_g1 O, jk_bs, rk_t K1 p12, jk_bs]
        have := r1 d
        rw [Int64.ofInt_mul P (T (o n))] at this
        exact this
      | some s =>
        obtain ⟨j, j1, rfl, j3⟩ := a5 n q s hp
        have j12 := (a2 j (by omega)).1
        have np : o n ≠ o j := fun z => by have := a4 n j (by omega) (by omega) z; omega
        obtain ⟨h1, s1, s2, s3, s4⟩ := rk_fold (rc := rc) (pr := 0) (lf := fun x => x) (fun x d h => cl_left0 x (d + 1)) O K1 p12 j12 np
        have H1 := wk_at_fr s4 (fun x q1 q2 => by omega) H
        have eT : rk_T h1 a (lI (fun x => if x = o j then T (o j) * T (o n) - R (o j) * R (o n) else T x)) (lI (fun x => if x = o j then R (o j) * T (o n) else R x)) := by
          obtain ⟨⟨g, g1, g2⟩, g', g3, g4⟩ := s3
          refine ⟨⟨g, g1, fun p hp => (g2 p hp).trans ?_⟩, g', g3, fun p hp => (g4 p hp).trans ?_⟩
          · by_cases z : p = o j
            · rw [z, updL_at]; unfold lI; dsimp only; rw [if_pos rfl, Int64.ofInt_sub, Int64.ofInt_mul, Int64.ofInt_mul]
            · rw [updL_ne _ _ z]; unfold lI; dsimp only; rw [if_neg z]
          · by_cases z : p = o j
            · rw [z, updL_at]; unfold lI; dsimp only; rw [if_pos rfl, Int64.ofInt_mul]
            · rw [updL_ne _ _ z]; unfold lI; dsimp only; rw [if_neg z]
        obtain ⟨h', r1, r2, r3, r4, r5⟩ := rk_minor_l B K n h1 _ _ P (by omega) s2 H1 eT
        rw [e1] at r1
        refine ⟨h', fun d => ?_, r2, r3, r4, s4.trans r5⟩
        rw [e0, mx_leaf (ec_sym B) T R nd (q := o j) (pl_mem.mpr ⟨j, j1, rfl⟩) (by unfold ec; rw [if_pos ⟨p12, j12⟩]; unfold ee; rw [B.sym p12 j12, j3]; rfl) (fun s hs hne => others s hs (by rw [hp]; intro z; cases z; exact hne rfl))]
        rw [je_249_13, jk_dec, if_neg (jk_nn (by omega)), rk_g0 O, jk_bs, wk_placeAt H s12 (by omega), jk_cI, if_pos q, rk_g0 O, jk_bs, wk_holderOf H p12 ps, jk_cI, cl_isPlace, jk_cI, jp_place_of p12, jk_if0, if_pos rfl, cl_isPlace, jk_cI, hp, show jk_on (some (o j)) = Int32.ofNat (o j) from rfl, jp_place_of j12, jk_if0, if_pos rfl, s1, jk_cV]
        exact r1 d
    · have e0 : min (n + 1) sz = sz := by omega
      have e1 : min n sz = sz := by omega
      obtain ⟨h', r1, r2⟩ := rk_minor_l B K n h T R P (by omega) O H K1
      rw [e1] at r1
      refine ⟨h', fun d => ?_, r2⟩
      rw [e0, je_249_13, jk_dec, if_neg (jk_nn (by omega)), rk_g0 O, jk_bs, wk_placeAt H s12 (by omega), jk_cI, if_neg q, rk_g0 O, jk_bs, wk_holderOf_no H, jk_cI, cl_isPlace, jk_cI, show jp_place (-1) = false from by decide, jk_if0, if_neg (by decide), cl_isPlace, jk_cI, show jp_place (-1) = false from by decide, jk_if0, if_neg (by decide)]
      exact r1 d
/-- minorOf() -/
theorem rk_minorOf (K : rk_ok h a) (G : fo_at h b f) (W : jf_W f) (hab : b + 3 ≤ a ∨ a + 8 ≤ b) {set : Int32} (hset : ∀ x, bt set x = true → x < 12 ∧ bt f.2.2 x = true) : ∃ h', (∀ d, jx_C rc (d + 5) 249 [.ref a, .ref b, .int set] h = some (some (.long (Int64.ofInt (MP f set))), h')) ∧ rk_ok h' a ∧ jx_at h' a = jx_at h a ∧ Fr (jI (a + 1) 6) h h' := by
  obtain ⟨O, w, ⟨t1, t2⟩, ⟨t3, t4⟩, t5, t6⟩ := K
  obtain ⟨h1, o, par, dep, sz, s1, s2, s3, s4⟩ := wk_over (rc := rc) w G W (by omega) hset
  have O1 : rk_O h1 a := by
    obtain ⟨u, l, i1, i2, i3, i4, i5, i6, e⟩ := O
    exact ⟨u, l, i1, i2, i3, i4, i5, i6, (s4.2.2 a (fun z => by unfold jI at z; omega)).trans e⟩
  have K1 : rk_T h1 a t1 t3 := ⟨⟨t1, (s4.2.2 _ (fun z => by unfold jI at z; omega)).trans t2, fun _ _ => rfl⟩, t3, (s4.2.2 _ (fun z => by unfold jI at z; omega)).trans t4, fun _ _ => rfl⟩
  have G1 := fo_fr s4 (fun x q1 q2 z => by unfold jI at z; omega) G
  obtain ⟨h2, u1, u2, u3, u4⟩ := rk_start (rc := rc) hab (pr := 0) (lf := fun x => x) (fun x d h => cl_left0 x (d + 1)) O1 G1 K1
  have H2 := wk_at_fr u4 (fun x q1 q2 => by omega) s2
  have K2 : rk_T h2 a (lI (ew f)) (lI (fun _ => 1)) := by
    obtain ⟨⟨g, g1, g2⟩, g', g3, g4⟩ := u3
    exact ⟨⟨g, g1, fun p hp => (g2 p hp).trans (Int64.ofInt_int32ToInt _).symm⟩, g', g3, fun p hp => (g4 p hp).trans rfl⟩
  obtain ⟨h', r1, r2, r3, ⟨T', R', ⟨g1, e1, -⟩, g2, e2, -⟩, r5⟩ := rk_minor_l (rc := rc) W.1 s3 12 h2 (ew f) (fun _ => 1) 1 (by omega) u2 H2 K2
  have F1 : Fr (jI (a + 1) 6) h h' := ((s4.mono (fun x hx => by unfold jI at *; omega)).trans (u4.mono (fun x hx => by unfold jI; omega))).trans (r5.mono (fun x hx => by unfold jI; omega))
  refine ⟨h', fun d => ?_, ⟨?_, wk_okof r3, ⟨g1, e1⟩, ⟨g2, e2⟩, t5, (F1.2.2 _ (fun z => by unfold jI at z; omega)).trans t6⟩, F1.2.2 a (fun z => by unfold jI at z; omega), F1⟩
  · rw [je_249, if_pos (rk_is O), rk_g0 O, jk_bs, s1, jk_cV, u1, jk_cV]
    have := r1 (d + 1)
    rw [show Int64.ofInt 1 = (1 : Int64) from rfl, show Int32.ofNat 12 + (-1) = (11 : Int32) from by decide] at this
    rw [this]
    have hsz : min 12 sz = sz := by have := bc_le set; have := s3.1; omega
    rw [hsz, Int.one_mul, MP_ec, ← mx_p_perm (ew f) (ec f) (ec_sym W.1) _ _ _ (Nat.le_refl _) (pl_nodup s3.2.2.2.1) (pl_sl s3)]
    rw [mx_p_congr (w' := ew f) (e' := ec f) (fun _ _ => rfl) (fun x _ y _ => by unfold eR; rw [Int.mul_one, Int.mul_one])]
  · obtain ⟨u, l, i1, i2, i3, i4, i5, i6, e⟩ := O
    exact ⟨u, l, i1, i2, i3, i4, i5, i6, (F1.2.2 a (fun z => by unfold jI at z; omega)).trans e⟩
end
