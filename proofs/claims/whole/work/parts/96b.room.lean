/-! LINES and their ROOMS: the class -/
def rN (x : Int64) : Int64 := if 0 ≤ x.toInt then x else -x
def rM (x b : Int64) : Int64 := if x = 0 then 1 else jl_fm (if x.toInt ≤ 0 then b else -b) (rN x)
def jq_ln (f : jF) (T : Int32) : Nat → Nat → Bool
  | 0, _ => true
  | m + 1, k => if bt T k = true then (if bc (f.2.1 k) ≤ 2 then jq_ln f T m (k + 1) else false) else jq_ln f T m (k + 1)
/-- the least place with one neighbour at most -/
def jq_end (f : jF) (T : Int32) : Nat → Nat → Option Nat
  | 0, _ => none
  | m + 1, k => if bt T k = true ∧ bc (f.2.1 k) ≤ 1 then some k else jq_end f T m (k + 1)
theorem jq_end_none {f : jF} {T : Int32} : ∀ {m k : Nat}, jq_end f T m k = none → ∀ i, k ≤ i → i < k + m → bt T i = true → 2 ≤ bc (f.2.1 i)
  | 0, k, _, i, h1, h2, _ => by omega
  | m + 1, k, e, i, h1, h2, h3 => by
    unfold jq_end at e
    split at e
    · cases e
    · rename_i c
      by_cases z : i = k
      · subst z
        have : ¬ bc (f.2.1 i) ≤ 1 := fun w => c ⟨h3, w⟩
        omega
      · exact jq_end_none e i (by omega) (by omega) h3
theorem jq_end_some {f : jF} {T : Int32} {j : Nat} : ∀ {m k : Nat}, jq_end f T m k = some j → k ≤ j ∧ j < k + m ∧ bt T j = true ∧ bc (f.2.1 j) ≤ 1
  | 0, k, e => by cases e
  | m + 1, k, e => by
    unfold jq_end at e
    split at e
    · rename_i c
      cases e
      exact ⟨by omega, by omega, c.1, c.2⟩
    · obtain ⟨a, b, c, d⟩ := jq_end_some e
      exact ⟨by omega, by omega, c, d⟩
theorem jq_end_T {f : jF} (W : jf_W f) {p : Nat} (hp : p < 12) (sp : bt f.2.2 p = true) : ∃ j, jq_end f (jt_T f p) 12 0 = some j := by
  cases e : jq_end f (jt_T f p) 12 0 with
  | some j => exact ⟨j, rfl⟩
  | none =>
    have h := jq_end_none e
    have d := jt_T_d W hp sp
    have l : js (fun x => i01 (bt (jt_T f p) x) + i01 (bt (jt_T f p) x)) 12 ≤ dU (bt (jt_T f p)) (jf_e f) := by
      unfold dU
      refine js_le fun x hx => ?_
      by_cases tx : bt (jt_T f p) x = true
      · have e1 : js (fun y => i01 (bt (jt_T f p) x && bt (jt_T f p) y && jf_e f x y)) 12 = js (fun y => i01 (bt (f.2.1 x) y)) 12 := js_congr fun y hy => by
          show i01 (bt (jt_T f p) x && bt (jt_T f p) y && bt (f.2.1 x) y) = _
          cases w : bt (f.2.1 x) y
          · rw [Bool.and_false]
          · rw [tx, jt_T_closed W.1.n hp tx hx w]; rfl
        rw [e1, js_bc, tx]
        have := h x (by omega) (by omega) tx
        show (1 : Int) + 1 ≤ _
        omega
      · rw [Bool.not_eq_true] at tx
        rw [tx]
        refine js_nonneg fun y hy => i01_nn _
    rw [js_add, show js (fun x => i01 (bt (jt_T f p) x)) 12 = cU (bt (jt_T f p)) from rfl] at l
    omega
section
variable {rc : Nat → Nat × (Nat → Int32)} {h h' : jxH} {σ : jSt} {P : Nat → Prop} {f : jF} {a b : Nat}
theorem jk_le2' (x : Int32) : (Int32.ofNat (bc x) ≤ (2 : Int32)) ↔ bc x ≤ 2 := by
  have := bc_le x
  rw [show (2 : Int32) = Int32.ofNat 2 from rfl, jk_le (by omega) (by decide)]
theorem jk_lt1 (x : Int32) : ((1 : Int32) < Int32.ofNat (bc x)) ↔ ¬ bc x ≤ 1 := by
  have := bc_le x
  rw [show (1 : Int32) = Int32.ofNat 1 from rfl, jk_lt (by decide) (by omega)]; omega
theorem jk_le1 (x : Int32) : (Int32.ofNat (bc x) ≤ (1 : Int32)) ↔ bc x ≤ 1 := by
  have := bc_le x
  rw [show (1 : Int32) = Int32.ofNat 1 from rfl, jk_le (by omega) (by decide)]
theorem jk_b1 : jx_bool (1 : Int32) = true := by simp [jx_bool]
theorem fo_line_l (G : fo_at h b f) (B : jf_B f) (T : Int32) (d : Nat) : ∀ (m k : Nat), k + m = 12 → jb_235 rc (d + 2) 2 [(0, .ref b), (1, .int T), (2, .int (Int32.ofNat k))] [] h = some (some (.int (jk_b (jq_ln f T m k))), h)
  | 0, k, e => by
    obtain rfl : k = 12 := by omega
    rw [je_235_2, if_pos (by decide), if_pos jk_b1]; rfl
  | m + 1, k, e => by
    have hk : k < 12 := by omega
    have i := fo_line_l G B T d m (k + 1) (by omega)
    unfold jq_ln
    rw [je_235_2, if_neg (jk_n12 hk), cl_isIn, jk_cI, jp_in_of hk, jk_if0]
    by_cases c : bt T k = true
    · rw [if_pos c, if_pos c, fo_degree G B.n, jk_cI, jF_n_of hk]
      by_cases c2 : bc (f.2.1 k) ≤ 2
      · rw [if_pos ((jk_le2' _).mpr c2), if_pos c2, jk_succ]; exact i
      · rw [if_neg (fun z => c2 ((jk_le2' _).mp z)), if_neg c2, if_pos jk_r0']; rfl
    · rw [if_neg c, if_neg c, jk_succ]; exact i
theorem fo_line (G : fo_at h b f) (B : jf_B f) (T : Int32) (d : Nat) : jx_C rc (d + 3) 235 [.ref b, .int T] h = some (some (.int (jk_b (jq_ln f T 12 0))), h) := by
  rw [je_235, if_pos (fo_is G)]
  exact fo_line_l G B T d 12 0 (by omega)
theorem rk_room_l (G : fo_at h b f) (B : jf_B f) (T : Int32) (d : Nat) : ∀ (k : Nat), k ≤ 12 → jb_255 rc (d + 2) 4 [(0, .ref a), (1, .ref b), (2, .int T), (3, .int (jk_on (jq_end f T (12 - k) k))), (4, .int (Int32.ofNat k + (-1)))] [] h = jb_255 rc (d + 2) 4 [(0, .ref a), (1, .ref b), (2, .int T), (3, .int (jk_on (jq_end f T 12 0))), (4, .int (-1))] [] h
  | 0, _ => by rfl
  | k + 1, hk => by
    have i := rk_room_l G B T d k (by omega)
    have hk : k < 12 := by omega
    rw [je_255_4, jk_dec, if_neg (jk_nn (by omega)), cl_isIn, jk_cI, jp_in_of hk, jk_if0]
    rw [show 12 - k = (12 - (k + 1)) + 1 by omega] at i
    unfold jq_end at i
    by_cases c : bt T k = true
    · rw [if_pos c, fo_degree G B.n, jk_cI, jF_n_of hk]
      by_cases c2 : bc (f.2.1 k) ≤ 1
      · rw [if_neg (fun z => (jk_lt1 _).mp z c2)]
        rw [if_pos ⟨c, c2⟩] at i
        exact i
      · rw [if_pos ((jk_lt1 _).mpr c2)]
        rw [if_neg (fun z => c2 z.2)] at i
        exact i
    · rw [if_neg c]
      rw [if_neg (fun z => c z.1)] at i
      exact i
theorem rk_obj (K : rk_ok h a) : ∃ (u l : Int64) (i1 i2 i3 i4 i5 i6 : Int32), jx_at h a = jxO 2 [.ref (a + 1), .ref (a + 5), .ref (a + 6), .ref (a + 7), .long u, .long l, .int i1, .int i2, .int i3, .int i4, .int i5, .int i6] := K.1
/-- roomOf() -/
theorem rk_room (K : rk_ok h a) (G : fo_at h b f) (W : jf_W f) (hab : b + 3 ≤ a ∨ a + 8 ≤ b) {T : Int32} (hT : ∀ x, bt T x = true → x < 12 ∧ bt f.2.2 x = true) {j : Nat} (hj : jq_end f T 12 0 = some j) : ∃ h', (∀ d, jx_C rc (d + 7) 255 [.ref a, .ref b, .int T] h = some (none, h')) ∧ rk_ok h' a ∧ jx_gL (jx_at h' a) 2 4 = some (rN (Int64.ofInt (MP f T))) ∧ jx_gL (jx_at h' a) 2 5 = some (rM (Int64.ofInt (MP f T)) (Int64.ofInt (MP f (T &&& (jk_bit j ^^^ (-1)))))) ∧ Fr (jI a 8) h h' := by
  obtain ⟨-, j12, -, -⟩ := jq_end_some hj
  obtain ⟨h1, r1, r2, r3, r4⟩ := rk_minorOf (rc := rc) K G W hab hT
  have G1 := fo_fr r4 (fun x a b z => by have := z.1; have := z.2; omega) G
  obtain ⟨h2, s1, s2, s3, s4⟩ := rk_minorOf (rc := rc) (set := T &&& (jk_bit j ^^^ (-1))) r2 G1 W hab (fun x hx => hT x (by rw [bt_and] at hx; simp at hx; exact hx.1))
  have x0 := MP_min W.1 T
  have xi := MP_int W.1 T
  have xl := MP_le W.1 T
  generalize Int64.ofInt (MP f T) = x at *
  generalize Int64.ofInt (MP f (T &&& (jk_bit j ^^^ (-1)))) = y at *
  obtain ⟨u, l, i1, i2, i3, i4, i5, i6, o⟩ := rk_obj s2
  obtain ⟨-, w, w1, w2, w3⟩ := s2
  have z0 : (0 : Int64).toInt = 0 := by decide
  have key : ∃ h', (∀ d, jb_255 rc (d + 1) 51 [(0, .ref a), (5, .long x), (7, .long y)] [.long (rN x), .ref a] h2 = some (none, h')) ∧ jx_at h' a = jxO 2 [.ref (a + 1), .ref (a + 5), .ref (a + 6), .ref (a + 7), .long (rN x), .long (rM x y), .int i1, .int i2, .int i3, .int i4, .int i5, .int i6] ∧ Fr (fun x => x = a) h2 h' := by
    refine ⟨jx_set (jx_set h2 a (jxO 2 [.ref (a + 1), .ref (a + 5), .ref (a + 6), .ref (a + 7), .long (rN x), .long l, .int i1, .int i2, .int i3, .int i4, .int i5, .int i6])) a (jxO 2 [.ref (a + 1), .ref (a + 5), .ref (a + 6), .ref (a + 7), .long (rN x), .long (rM x y), .int i1, .int i2, .int i3, .int i4, .int i5, .int i6]), fun d => ?_, jk_at_self .., Fr.one.one'⟩
    have nn : rN x = 0 ∨ 0 < (rN x).toInt := by
      unfold rN
      split
      · rename_i c
        by_cases e : x = 0
        · exact Or.inl e
        · right
          have : x.toInt ≠ 0 := fun w => e (Int64.toInt_inj.1 (by rw [w, z0]))
          omega
      · right
        rw [Int64.toInt_neg, Int.bmod_eq_of_le (by omega) (by omega)]; omega
    rw [je_255_51, o, show jx_pF (jxO 2 [.ref (a + 1), .ref (a + 5), .ref (a + 6), .ref (a + 7), .long u, .long l, .int i1, .int i2, .int i3, .int i4, .int i5, .int i6]) 2 4 (.long (rN x)) = some (jxO 2 [.ref (a + 1), .ref (a + 5), .ref (a + 6), .ref (a + 7), .long (rN x), .long l, .int i1, .int i2, .int i3, .int i4, .int i5, .int i6]) from rfl, jk_bs, jk_at_self, show jx_gL (jxO 2 [.ref (a + 1), .ref (a + 5), .ref (a + 6), .ref (a + 7), .long (rN x), .long l, .int i1, .int i2, .int i3, .int i4, .int i5, .int i6]) 2 4 = some (rN x) from rfl, jk_bs]
    have pf : ∀ v : Int64, jx_pF (jxO 2 [.ref (a + 1), .ref (a + 5), .ref (a + 6), .ref (a + 7), .long (rN x), .long l, .int i1, .int i2, .int i3, .int i4, .int i5, .int i6]) 2 5 (.long v) = some (jxO 2 [.ref (a + 1), .ref (a + 5), .ref (a + 6), .ref (a + 7), .long (rN x), .long v, .int i1, .int i2, .int i3, .int i4, .int i5, .int i6]) := fun _ => rfl
    have x00 : x = 0 → rN x = 0 := fun e => by subst e; unfold rN; rw [if_pos (by decide)]
    rcases nn with n0 | np
    · have e0 : x = 0 := by
        unfold rN at n0
        split at n0
        · exact n0
        · rename_i c
          have : (-x).toInt = 0 := by rw [n0, z0]
          rw [Int64.toInt_neg, Int.bmod_eq_of_le (by omega) (by omega)] at this
          omega
      rw [if_neg (by rw [lg_gt0, n0, Int64.lt_iff_toInt_lt]; omega), pf, jk_bs]
      unfold rM
      rw [if_pos e0]
    · rw [if_pos (by rw [lg_gt0, Int64.lt_iff_toInt_lt, z0]; exact np)]
      have e0 : ¬ x = 0 := fun e => by rw [x00 e, z0] at np; omega
      by_cases c : x.toInt ≤ 0
      · rw [if_pos (by rw [lg_cmp_le, Int64.le_iff_toInt_le, z0]; exact c), jk_bs, cl_fm np, jk_cL, jk_at_self, pf, jk_bs]
        unfold rM
        rw [if_neg e0, if_pos c]
      · rw [if_neg (by rw [lg_cmp_le, Int64.le_iff_toInt_le, z0]; exact c), jk_bs, cl_fm np, jk_cL, jk_at_self, pf, jk_bs]
        unfold rM
        rw [if_neg e0, if_neg c]
  obtain ⟨h3, t1, t2, t3⟩ := key
  refine ⟨h3, fun d => ?_, ⟨⟨_, _, _, _, _, _, _, _, t2⟩, wk_fr t3 (fun x _ _ => by omega) w, ?_, ?_, ?_⟩, by rw [t2]; rfl, by rw [t2]; rfl, ?_⟩
  · rw [je_255, if_pos (by obtain ⟨u, l, i1, i2, i3, i4, i5, i6, o⟩ := K.1; rw [o]; rfl)]
    have L := rk_room_l (rc := rc) (a := a) G W.1 T (d + 4) 12 (by omega)
    refine Eq.trans L ?_
    rw [je_255_4, if_pos (by decide), cl_isPlace, jk_cI, hj, show jk_on (some j) = Int32.ofNat j from rfl, jp_place_of (by omega), jk_if0, if_pos rfl, r1, jk_cL]
    have s1' := s1 (d + 1)
    unfold jk_bit at s1'
    rw [s1', jk_cL]
    by_cases c : 0 ≤ x.toInt
    · rw [if_pos (by rw [lg_cmp_ge, Int64.le_iff_toInt_le, z0]; exact c)]
      have := t1 (d + 5)
      rw [show rN x = x by unfold rN; rw [if_pos c]] at this
      exact this
    · rw [if_neg (by rw [lg_cmp_ge, Int64.le_iff_toInt_le, z0]; exact c)]
      have := t1 (d + 5)
      rw [show rN x = -x by unfold rN; rw [if_neg c]] at this
      exact this
  · obtain ⟨g, e⟩ := w1; exact ⟨g, (t3.2.2 _ (by omega)).trans e⟩
  · obtain ⟨g, e⟩ := w2; exact ⟨g, (t3.2.2 _ (by omega)).trans e⟩
  · obtain ⟨g, e⟩ := w3; exact ⟨g, (t3.2.2 _ (by omega)).trans e⟩
  · exact ((r4.mono fun x q => ⟨by have := q.1; omega, by have := q.2; omega⟩).trans (s4.mono fun x q => ⟨by have := q.1; omega, by have := q.2; omega⟩)).trans (t3.mono fun x q => ⟨by omega, by omega⟩)
end
