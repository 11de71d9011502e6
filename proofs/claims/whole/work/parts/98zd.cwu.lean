/-! WU: the count; the class -/
section
variable {f : jF} {R : Nat → Int32} {k : Nat} {pv : Nat → Nat}
theorem frn_js (V : Int32) (pv : Nat → Nat) (k : Nat) : ∀ m, (frn V pv k m : Int) = js (fun j => if bt V j = true ∧ pvr pv k j = none then 1 else 0) m
  | 0 => rfl
  | m + 1 => by
    show ((frn V pv k m + _ : Nat) : Int) = js _ m + _
    rw [Int.natCast_add, frn_js V pv k m]
    show _ = _ + (if bt V m = true ∧ pvr pv k m = none then 1 else 0)
    split <;> rfl
theorem js_1 : ∀ n : Nat, js (fun _ => 1) n = n
  | 0 => rfl
  | n + 1 => by show js _ n + 1 = _; rw [js_1 n]; rfl
theorem pv_num (B : jf_B f) (J : el_J (wu_row f) 12 R k pv) : frn f.2.2 pv k 12 + k = bc f.2.2 := by
  have e1 : js (fun j => js (fun i => if i = i ∧ pv i = j then 1 else 0) k) 12 = k := by
    rw [js_swap, js_congr (h := fun _ => 1) (fun i hi => ?_), js_1]
    rw [js_congr (h := fun j => if j = pv i then 1 else 0) (fun j hj => ?_), js_delta (fun _ => 1), if_pos (J.2.2.2.1 i hi).1]
    by_cases z : j = pv i
    · rw [if_pos z, if_pos ⟨rfl, z.symm⟩]
    · rw [if_neg z, if_neg (fun w => z w.2.symm)]
  have e2 : js (fun j => if bt f.2.2 j = true then 1 else 0) 12 = js (fun j => (if bt f.2.2 j = true ∧ pvr pv k j = none then 1 else 0) + js (fun i => if i = i ∧ pv i = j then 1 else 0) k) 12 := js_congr fun j hj => by
    cases e : pvr pv k j with
    | none =>
      have z : js (fun i => if i = i ∧ pv i = j then 1 else 0) k = 0 := by
        rw [js_congr (h := fun _ => 0) (fun i hi => if_neg (fun w => pvr_none e i hi w.2)), js_0]
      rw [z, Int.add_zero]
      by_cases v : bt f.2.2 j = true
      · rw [if_pos v, if_pos ⟨v, rfl⟩]
      · rw [if_neg v, if_neg (fun w => v w.1)]
    | some i0 =>
      obtain ⟨a, b⟩ := pvr_some e
      have v : bt f.2.2 j = true := by rw [← b]; exact wu_pv B J a
      have z : js (fun i => if i = i ∧ pv i = j then 1 else 0) k = 1 := by
        rw [js_congr (h := fun i => if i = i0 then 1 else 0) (fun i hi => ?_), js_delta (fun _ => 1), if_pos a]
        by_cases w : i = i0
        · rw [if_pos w, if_pos ⟨rfl, by rw [w]; exact b⟩]
        · rw [if_neg w, if_neg (fun y => ?_)]
          have q := (J.2.2.2.1 i0 a).2.2.2 i (by have := J.2.2.2.2.2; omega) w
          have q2 := (J.2.2.2.1 i hi).2.1
          rw [y.2, ← b, q] at q2; cases q2
      rw [z, if_pos v, if_neg (fun w => by cases w.2)]
      rfl
  rw [js_one, js_add, e1, ← frn_js] at e2
  omega
theorem wu_cnt (B : jf_B f) (J : el_J (wu_row f) 12 R k pv) : cnt (fun x => wu_is f (Int32.ofNat x)) 0 4096 = 2 ^ (bc f.2.2 - k) ∧ k ≤ bc f.2.2 := by
  have n := pv_num B J
  have c := cnt_sol (V := f.2.2) (R := R) (pv := pv) (k := k) (fun i hi => ⟨(J.2.2.2.1 i hi).1, (J.2.2.2.1 i hi).2.1, (J.2.2.2.1 i hi).2.2.1⟩) 12 0 (Nat.le_refl _) (by decide)
  rw [Nat.mul_zero, show (2 : Nat) ^ 12 = 4096 from rfl] at c
  refine ⟨?_, by omega⟩
  rw [show bc f.2.2 - k = frn f.2.2 pv k 12 by omega, ← c]
  exact cnt_congr fun x _ hx => by
    have i := wu_is_iff B J (x := Int32.ofNat x) (S12_of (by omega))
    cases w : oka f.2.2 R pv k (Int32.ofNat x) 12
    · cases y : wu_is f (Int32.ofNat x)
      · rfl
      · rw [i.mp y] at w; cases w
    · exact i.mpr w
end
/-- the class's rows over two -/
abbrev wrW := Int64 × Int64 × Int32 × Int32 × Int32 × Int32
def wr_o (a : Nat) (w : wrW) (x y : Int32) : jxE := jxO 2 [.ref (a + 1), .ref (a + 5), .ref (a + 6), .ref (a + 7), .long w.1, .long w.2.1, .int w.2.2.1, .int w.2.2.2.1, .int w.2.2.2.2.1, .int w.2.2.2.2.2, .int x, .int y]
def wr_at (h : jxH) (a : Nat) (w : wrW) (R : Nat → Int32) (x y : Int32) : Prop := jx_at h a = wr_o a w x y ∧ ∃ g, jx_at h (a + 7) = jxI 0 12 g ∧ ∀ i, i < 12 → g i = R i
def jWr (a : Nat) : Nat → Prop := fun x => x = a ∨ x = a + 7
section
variable {rc : Nat → Nat × (Nat → Int32)} {h h' : jxH} {a b : Nat} {f : jF} {w : wrW} {R : Nat → Int32} {x y : Int32} {σ : jSt}
theorem wr_is (H : wr_at h a w R x y) : jx_is (jx_at h a) 2 = true := by rw [H.1]; rfl
theorem wr_g3 (H : wr_at h a w R x y) : jx_gR (jx_at h a) 2 3 = some (a + 7) := by rw [H.1]; rfl
theorem wr_g10 (H : wr_at h a w R x y) : jx_gI (jx_at h a) 2 10 = some x := by rw [H.1]; rfl
theorem wr_g11 (H : wr_at h a w R x y) : jx_gI (jx_at h a) 2 11 = some y := by rw [H.1]; rfl
theorem wr_row (H : wr_at h a w R x y) {i : Nat} (hi : i < 12) : jx_aI (jx_at h (a + 7)) 0 (Int32.ofNat i) = some (R i) := by
  obtain ⟨-, g, e, q⟩ := H
  rw [e, jk_aI hi (by decide), q i hi]
theorem wr_set (H : wr_at h a w R x y) {i : Nat} (hi : i < 12) (v : Int32) : ∃ e, jx_sI (jx_at h (a + 7)) 0 (Int32.ofNat i) v = some e ∧ wr_at (jx_set h (a + 7) e) a w (upd R i v) x y ∧ Fr (jWr a) h (jx_set h (a + 7) e) := by
  obtain ⟨o, g, e, q⟩ := H
  exact ⟨jxI 0 12 (upd g i v), by rw [e]; exact jk_sI hi (by decide), ⟨(jk_at_ne _ _ (by omega)).trans o, upd g i v, jk_at_self .., upd_lt q i v⟩, Fr.set (Or.inr rfl)⟩
theorem wr_congr {R' : Nat → Int32} (H : wr_at h a w R x y) (e : ∀ i, i < 12 → R i = R' i) : wr_at h a w R' x y := by
  obtain ⟨o, g, e', q⟩ := H
  exact ⟨o, g, e', fun i hi => (q i hi).trans (e i hi)⟩
theorem wr_s10 (H : wr_at h a w R x y) (v : Int32) : jx_pF (jx_at h a) 2 10 (.int v) = some (wr_o a w v y) ∧ wr_at (jx_set h a (wr_o a w v y)) a w R v y ∧ Fr (jWr a) h (jx_set h a (wr_o a w v y)) := by
  obtain ⟨o, g, e, q⟩ := H
  exact ⟨by rw [o]; rfl, ⟨jk_at_self .., g, (jk_at_ne _ _ (by omega)).trans e, q⟩, Fr.set (Or.inl rfl)⟩
theorem wr_s11 (H : wr_at h a w R x y) (v : Int32) : jx_pF (jx_at h a) 2 11 (.int v) = some (wr_o a w x v) ∧ wr_at (jx_set h a (wr_o a w x v)) a w R x v ∧ Fr (jWr a) h (jx_set h a (wr_o a w x v)) := by
  obtain ⟨o, g, e, q⟩ := H
  exact ⟨by rw [o]; rfl, ⟨jk_at_self .., g, (jk_at_ne _ _ (by omega)).trans e, q⟩, Fr.set (Or.inl rfl)⟩
theorem wr_rowWith_l (H : wr_at h a w R x y) {c k : Nat} (hc : c < 12) (d : Nat) : ∀ (m i : Nat), i + m = 12 → k ≤ i → jb_259 rc (d + 1) 2 [(0, .ref a), (1, .int (Int32.ofNat c)), (2, .int (Int32.ofNat k)), (3, .int (Int32.ofNat i))] [] h = some (some (.int (jk_on (el_f R c m i))), h)
  | 0, i, e, hk => by
    rw [je_259_2, if_pos ((jk_12 (by omega)).mpr (by omega))]; rfl
  | m + 1, i, e, hk => by
    have hi : i < 12 := by omega
    rw [je_259_2, if_neg (jk_n12 hi), if_neg (by rw [jk_lt (by omega) (by omega)]; omega), wr_g3 H, jk_bs, wr_row H hi, jk_bs, cl_isIn, jk_cI, jp_in_of hc, jk_if0]
    unfold el_f
    by_cases z : bt (R i) c = true
    · rw [if_pos z, if_pos z]; rfl
    · rw [if_neg z, if_neg z, jk_succ]
      exact wr_rowWith_l H hc d m (i + 1) (by omega) (by omega)
theorem wr_rowWith_0 (H : wr_at h a w R x y) {c k : Nat} (hc : c < 12) (hk : k ≤ 12) (d : Nat) : ∀ (n i : Nat), i + n = k → jb_259 rc (d + 1) 2 [(0, .ref a), (1, .int (Int32.ofNat c)), (2, .int (Int32.ofNat k)), (3, .int (Int32.ofNat i))] [] h = some (some (.int (jk_on (el_f R c (12 - k) k))), h)
  | 0, i, e => by
    obtain rfl : i = k := by omega
    exact wr_rowWith_l H hc d (12 - i) i (by omega) (Nat.le_refl _)
  | n + 1, i, e => by
    rw [je_259_2, if_neg (jk_n12 (by omega)), if_pos (by rw [jk_lt (by omega) (by omega)]; omega), jk_succ]
    exact wr_rowWith_0 H hc hk d n (i + 1) (by omega)
theorem wr_rowWith (H : wr_at h a w R x y) {c k : Nat} (hc : c < 12) (hk : k ≤ 12) (d : Nat) : jx_C rc (d + 2) 259 [.ref a, .int (Int32.ofNat c), .int (Int32.ofNat k)] h = some (some (.int (jk_on (el_f R c (12 - k) k))), h) := by
  rw [je_259, if_pos (wr_is H)]
  exact wr_rowWith_0 H hc hk d k 0 (by omega)
theorem wr_clear_l {c k : Nat} (hc : c < 12) (hk : k < 12) (R0 : Nat → Int32) : ∀ (m i : Nat) (h : jxH), i + m = 12 → wr_at h a w (fun j => if j < i then el_c R0 c k j else R0 j) x y → ∃ h', (∀ d, jb_260 rc (d + 1) 2 [(0, .ref a), (1, .int (Int32.ofNat c)), (2, .int (Int32.ofNat k)), (3, .int (Int32.ofNat i))] [] h = some (none, h')) ∧ wr_at h' a w (el_c R0 c k) x y ∧ Fr (jWr a) h h'
  | 0, i, h, e, H => by
    refine ⟨h, fun d => ?_, wr_congr H (fun j hj => if_pos (by omega)), Fr.rfl⟩
    rw [je_260_2, if_pos ((jk_12 (by omega)).mpr (by omega))]
  | m + 1, i, h, e, H => by
    have hi : i < 12 := by omega
    by_cases z : i = k
    · obtain ⟨h1, r1, r2, r3⟩ := wr_clear_l hc hk R0 m (i + 1) h (by omega) (wr_congr H (fun j hj => by
        by_cases q : j < i
        · rw [if_pos q, if_pos (by omega)]
        · rw [if_neg q]
          by_cases q2 : j = i
          · rw [if_pos (by omega)]; unfold el_c; rw [if_pos (by omega)]
          · rw [if_neg (by omega)]))
      refine ⟨h1, fun d => ?_, r2, r3⟩
      rw [je_260_2, if_neg (jk_n12 hi), if_pos (by rw [z]), jk_succ]
      exact r1 d
    · have ri := wr_row H hi
      rw [if_neg (show ¬ i < i by omega)] at ri
      have rk := wr_row H hk
      have ek : (if k < i then el_c R0 c k k else R0 k) = R0 k := by
        split
        · unfold el_c; rw [if_pos rfl]
        · rfl
      rw [ek] at rk
      have st : ∀ d, jb_260 rc (d + 1) 2 [(0, .ref a), (1, .int (Int32.ofNat c)), (2, .int (Int32.ofNat k)), (3, .int (Int32.ofNat i))] [] h = _ := fun d => by
        rw [je_260_2, if_neg (jk_n12 hi), if_neg (by rw [jk_inj (by omega) (by omega)]; exact z), cl_isPlace, jk_cI, jp_place_of hk, jk_if0, if_pos rfl, wr_g3 H, jk_bs, ri, jk_bs, cl_isIn, jk_cI, jp_in_of hc, jk_if0]
      by_cases bz : bt (R0 i) c = true
      · obtain ⟨e1, s1, s2, s3⟩ := wr_set H hi (R0 i ^^^ R0 k)
        obtain ⟨h1, r1, r2, r3⟩ := wr_clear_l hc hk R0 m (i + 1) _ (by omega) (wr_congr s2 (fun j hj => by
          unfold upd
          by_cases q2 : j = i
          · rw [if_pos q2, if_pos (by omega)]; unfold el_c; rw [if_neg (by omega), q2, if_pos bz]
          · rw [if_neg q2]
            dsimp only
            by_cases q : j < i
            · rw [if_pos q, if_pos (by omega)]
            · rw [if_neg q, if_neg (by omega)]))
        refine ⟨h1, fun d => ?_, r2, s3.trans r3⟩
        rw [st d, if_pos bz, wr_g3 H, jk_bs, ri, jk_bs, jk_bs, rk, jk_bs, s1, jk_bs, jk_succ]
        exact r1 d
      · obtain ⟨h1, r1, r2, r3⟩ := wr_clear_l hc hk R0 m (i + 1) h (by omega) (wr_congr H (fun j hj => by
          show (if j < i then el_c R0 c k j else R0 j) = (if j < i + 1 then el_c R0 c k j else R0 j)
          by_cases q2 : j = i
          · rw [if_neg (by omega), if_pos (by omega)]; unfold el_c; rw [if_neg (by omega), q2, if_neg bz]
          · by_cases q : j < i
            · rw [if_pos q, if_pos (by omega)]
            · rw [if_neg q, if_neg (by omega)]))
        refine ⟨h1, fun d => ?_, r2, r3⟩
        rw [st d, if_neg bz, jk_succ]
        exact r1 d
theorem wr_clear {c k : Nat} (hc : c < 12) (hk : k < 12) (H : wr_at h a w R x y) : ∃ h', (∀ d, jx_C rc (d + 2) 260 [.ref a, .int (Int32.ofNat c), .int (Int32.ofNat k)] h = some (none, h')) ∧ wr_at h' a w (el_c R c k) x y ∧ Fr (jWr a) h h' := by
  obtain ⟨h1, r1, r2, r3⟩ := wr_clear_l (rc := rc) hc hk R 12 0 h rfl (wr_congr H (fun j hj => by rw [if_neg (by omega)]))
  exact ⟨h1, fun d => by rw [je_260, if_pos (wr_is H)]; exact r1 d, r2, r3⟩
/-- the columns -/
theorem wr_el {b : Nat} : ∀ (m c : Nat) (R : Nat → Int32) (k : Nat) (h : jxH), c + m = 12 → k ≤ 12 → wr_at h a w R x y → ∃ h', (∀ d, jb_258 rc (d + 3) 35 [(0, .ref a), (1, .ref b), (2, .int (Int32.ofNat k)), (3, .int (Int32.ofNat c))] [] h = jb_258 rc (d + 3) 35 [(0, .ref a), (1, .ref b), (2, .int (Int32.ofNat (el m c R k).2)), (3, .int (Int32.ofNat 12))] [] h') ∧ wr_at h' a w (el m c R k).1 x y ∧ Fr (jWr a) h h'
  | 0, c, R, k, h, e, hk, H => by
    obtain rfl : c = 12 := by omega
    exact ⟨h, fun d => rfl, H, Fr.rfl⟩
  | m + 1, c, R, k, h, e, hk, H => by
    have hc : c < 12 := by omega
    unfold el
    cases q : el_f R c (12 - k) k with
    | none =>
      obtain ⟨h1, r1, r2, r3⟩ := wr_el (b := b) m (c + 1) R k h (by omega) hk H
      refine ⟨h1, fun d => ?_, r2, r3⟩
      rw [je_258_35, if_neg (jk_n12 hc), wr_rowWith H hc hk, jk_cI, q, cl_isPlace, jk_cI, show jp_place (jk_on none) = false by decide, jk_if0, if_neg (by decide), jk_succ]
      exact r1 d
    | some i =>
      obtain ⟨i1, i2, i3⟩ := el_f_some q
      have i12 : i < 12 := by omega
      have k12 : k < 12 := by omega
      obtain ⟨e1, s1, s2, s3⟩ := wr_set H i12 (R k)
      obtain ⟨e2, t1, t2, t3⟩ := wr_set s2 k12 (R i)
      obtain ⟨h3, u1, u2, u3⟩ := wr_clear (rc := rc) hc k12 t2
      obtain ⟨h4, r1, r2, r3⟩ := wr_el (b := b) m (c + 1) _ (k + 1) h3 (by omega) (by omega) u2
      refine ⟨h4, fun d => ?_, r2, s3.trans (t3.trans (u3.trans r3))⟩
      rw [je_258_35, if_neg (jk_n12 hc), wr_rowWith H hc hk, jk_cI, q, cl_isPlace, jk_cI, show jk_on (some i) = Int32.ofNat i from rfl, jp_place_of i12, jk_if0, if_pos rfl, cl_isPlace, jk_cI, jp_place_of k12, jk_if0, if_pos rfl, wr_g3 H, jk_bs, wr_row H i12, jk_bs, jk_bs, jk_bs, wr_row H k12, jk_bs, s1, jk_bs, wr_g3 s2, jk_bs, t1, jk_bs, u1, jk_cV, jk_succ, jk_succ]
      exact r1 d
end
