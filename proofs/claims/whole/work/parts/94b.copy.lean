/-! copy(), both ways -/
def jq_holds (e : jSh) (i n : Int32) : Bool := if i < 0 then false else if n < 0 then false else if Int32.ofNat e.2.1 - n < i then false else true
def jq_cpy (e e' : jSh) (a c n : Nat) : jSh := (e'.1, e'.2.1, va_cpy e.2.2 e'.2.2 a c n)
def op_copy (σ : jSt) (k i o j n : Int32) : Int32 × jSt := if jp_four k = true then (if jp_four o = true then (match sE σ (pn k) with
  | some e => match sE σ (pn o) with
    | some e' => if e.1 = e'.1 then (if jq_holds e i n = true then (if jq_holds e' j n = true then (n, setE σ (va_up (sE σ) (pn o) (some (jq_cpy e e' (pn i) (pn j) (pn n))))) else er σ 1) else er σ 1) else er σ 6
    | none => er σ 7
  | none => er σ 7) else er σ 1) else er σ 1
theorem jq_holds_iff {e : jSh} (hn : e.2.1 ≤ 24) {i n : Int32} : jq_holds e i n = true ↔ ∃ a m : Nat, i = Int32.ofNat a ∧ n = Int32.ofNat m ∧ a + m ≤ e.2.1 := by
  unfold jq_holds
  have k : ∀ {a m : Nat}, a < 2 ^ 31 → m < 2 ^ 31 → ((Int32.ofNat e.2.1 - Int32.ofNat m < Int32.ofNat a) ↔ e.2.1 < a + m) := fun {a m} ha hm => by
    rw [Int32.lt_iff_toInt_lt, Int32.toInt_sub, jk_int (by omega), jk_int hm, jk_int ha, Int.bmod_eq_of_le (by omega) (by omega)]
    omega
  constructor
  · intro q
    by_cases c1 : i < 0
    · rw [if_pos c1] at q; cases q
    rw [if_neg c1] at q
    by_cases c2 : n < 0
    · rw [if_pos c2] at q; cases q
    rw [if_neg c2] at q
    by_cases c3 : Int32.ofNat e.2.1 - n < i
    · rw [if_pos c3] at q; cases q
    refine ⟨_, _, jk_of c1, jk_of c2, ?_⟩
    rw [jk_of c1, jk_of c2, k (jk_of_lt i) (jk_of_lt n)] at c3
    omega
  · rintro ⟨a, m, rfl, rfl, l⟩
    rw [if_neg (jk_nn (by omega)), if_neg (jk_nn (by omega)), if_neg (by rw [k (by omega) (by omega)]; omega)]
section
variable {rc : Nat → Nat × (Nat → Int32)} {h h' : jxH} {σ : jSt} {P : Nat → Prop} {e e' : jSh} {b b' : Nat}
theorem ea_holds (H : ea_at h b e) (i n : Int32) (d : Nat) : jx_C rc (d + 1) 273 [.ref b, .int i, .int n] h = some (some (.int (jk_b (jq_holds e i n))), h) := by
  rw [je_273, if_pos (ea_is H)]
  unfold jq_holds
  by_cases c1 : i < 0
  · rw [if_pos c1, if_pos c1, if_pos jk_r0']; rfl
  rw [if_neg c1, if_neg c1]
  by_cases c2 : n < 0
  · rw [if_pos c2, if_pos c2, if_pos jk_r0']; rfl
  rw [if_neg c2, if_neg c2, ea_g1 H, jk_bs, ea_len H, jk_bs]
  by_cases c3 : Int32.ofNat e.2.1 - n < i
  · rw [if_pos c3, if_pos c3, if_pos jk_r0']; rfl
  · rw [if_neg c3, if_neg c3, if_pos (show jx_bool (1 : Int32) = true by simp [jx_bool])]; rfl
theorem ea_cp (H : ea_at h b e) (H' : ea_at h b' e') (h1 : e.2.1 ≤ 24) (h2 : e'.2.1 ≤ 24) {a c n : Nat} (ha : a + n ≤ e.2.1) (hc : c + n ≤ e'.2.1) : ∃ E, jx_cp (jx_at h (b + 1)) (jx_at h (b' + 1)) 0 (Int32.ofNat a) (Int32.ofNat c) (Int32.ofNat n) = some E ∧ ea_at (jx_set h (b' + 1) E) b' (jq_cpy e e' a c n) := by
  obtain ⟨o, g, a1, a2⟩ := H
  obtain ⟨o', g', b1, b2⟩ := H'
  refine ⟨jxI 0 e'.2.1 (va_cpy g g' a c n), ?_, (jk_at_ne _ _ (by omega)).trans o', _, jk_at_self .., fun k hk => ?_⟩
  · rw [a1, b1]
    unfold jx_cp jxI
    simp only [jk_cl (show a < 2 ^ 31 by omega), jk_cl (show c < 2 ^ 31 by omega), jk_cl (show n < 2 ^ 31 by omega)]
    rw [if_pos ⟨trivial, trivial, jk_nn (by omega), jk_nn (by omega), jk_nn (by omega), ha, hc⟩]
  · show va_cpy g g' a c n k = va_cpy e.2.2 e'.2.2 a c n k
    have hk : k < e'.2.1 := hk
    unfold va_cpy
    split
    · exact a2 _ (by omega)
    · exact b2 k hk
theorem cc_copy (C : CSt h σ) (A : AWt σ) (k i o j n : Int32) : ∃ h', (∀ d, jx_C rc (d + 20) 45 [.ref 0, .int k, .int i, .int o, .int j, .int n] h = some (some (.int (op_copy σ k i o j n).1), h')) ∧ CSt h' (op_copy σ k i o j n).2 ∧ cF h h' := by
  unfold op_copy
  obtain ⟨e', e1, e2, e3⟩ := cc_refuse (rc := rc) C A (k := 1) (by decide) (by decide) (K := 1) rfl
  by_cases c0 : jp_four k = true
  · rw [if_pos c0]
    obtain ⟨x, hx, rfl⟩ := jp_four_iff.mp c0
    obtain ⟨n1, n2, n3⟩ := four_ok hx
    by_cases c1 : jp_four o = true
    · rw [if_pos c1]
      obtain ⟨y, hy, rfl⟩ := jp_four_iff.mp c1
      obtain ⟨m1, m2, m3⟩ := four_ok hy
      rw [pn_4 hx, pn_4 hy]
      have st : ∀ d, jx_C rc (d + 20) 45 [.ref 0, .int (Int32.ofNat x), .int i, .int (Int32.ofNat y), .int j, .int n] h = _ := fun d => by
        rw [je_45, if_pos C.is, if_neg n1, if_neg n3, if_neg m1, if_pos m2, C.g12, jk_bs]
      obtain ⟨f', f1, f2, f3⟩ := cc_refuse (rc := rc) C A (k := 7) (by decide) (by decide) (K := 7) rfl
      rcases ed_get C.dyn hx with ⟨a1, a2⟩ | ⟨ex, bx, a1, a2, a3, a4, a5⟩
      · rw [show sE σ x = none from a1]
        refine ⟨f', fun d => ?_, f2, f3⟩
        rw [st d, a2, jk_bs, jk_mon, jk_bs]
        rcases ed_get C.dyn hy with ⟨b1, b2⟩ | ⟨ey, by', b1, b2, -⟩
        · rw [b2, jk_bs, jk_mon, f1, jk_cI]
        · rw [b2, jk_bs, jk_mos, f1, jk_cI]
      · rw [show sE σ x = some ex from a1]
        rcases ed_get C.dyn hy with ⟨b1, b2⟩ | ⟨ey, by', b1, b2, b3, b4, b5⟩
        · rw [show sE σ y = none from b1]
          refine ⟨f', fun d => ?_, f2, f3⟩
          rw [st d, a2, jk_bs, jk_mos, jk_bs, b2, jk_bs, jk_mon, f1, jk_cI]
        · rw [show sE σ y = some ey from b1]
          dsimp only
          have hnx := (A.ss x ex hx a1).2
          have hny := (A.ss y ey hy b1).2
          have st2 : ∀ d, jx_C rc (d + 20) 45 [.ref 0, .int (Int32.ofNat x), .int i, .int (Int32.ofNat y), .int j, .int n] h = _ := fun d => by
            rw [st d, a2, jk_bs, jk_mos, jk_bs, b2, jk_bs, jk_mos, ea_g0 a4, jk_bs, ea_g0 b4, jk_bs]
          by_cases cb : ex.1 = ey.1
          · rw [if_pos cb]
            have st3 := fun d => (st2 d).trans (if_pos cb)
            by_cases h1 : jq_holds ex i n = true
            · rw [if_pos h1]
              by_cases h2 : jq_holds ey j n = true
              · rw [if_pos h2]
                obtain ⟨a, m, rfl, rfl, l1⟩ := (jq_holds_iff hnx).mp h1
                obtain ⟨c, m', rfl, q, l2⟩ := (jq_holds_iff hny).mp h2
                have mm : m = m' := (jk_inj (by omega) (by omega)).mp q
                subst mm
                rw [show pn (Int32.ofNat a) = a from jk_cl (by omega), show pn (Int32.ofNat c) = c from jk_cl (by omega), show pn (Int32.ofNat m) = m from jk_cl (by omega)]
                obtain ⟨E, r1, r2⟩ := ea_cp a4 b4 hnx hny l1 l2
                have F : Fr (jI by' 2) h (jx_set h (by' + 1) E) := Fr.set ⟨by omega, by omega⟩
                obtain ⟨C1, F1⟩ := cc_dyn C A b3 F (b5 _ _ F r2)
                refine ⟨_, fun d => ?_, C1, F1⟩
                rw [st3 d, ea_holds a4, jk_cI, jk_if0, if_pos h1, ea_holds b4, jk_cI, jk_if0, if_pos h2, ea_g1 a4, jk_bs, ea_g1 b4, jk_bs, r1, jk_bs]
              · rw [if_neg h2]
                refine ⟨e', fun d => ?_, e2, e3⟩
                rw [st3 d, ea_holds a4, jk_cI, jk_if0, if_pos h1, ea_holds b4, jk_cI, jk_if0, if_neg h2, e1, jk_cI]
            · rw [if_neg h1]
              refine ⟨e', fun d => ?_, e2, e3⟩
              rw [st3 d, ea_holds a4, jk_cI, jk_if0, if_neg h1, e1, jk_cI]
          · rw [if_neg cb]
            obtain ⟨g', g1, g2, g3⟩ := cc_refuse (rc := rc) C A (k := 6) (by decide) (by decide) (K := 6) rfl
            refine ⟨g', fun d => ?_, g2, g3⟩
            rw [st2 d, if_neg cb, g1, jk_cI]
    · rw [if_neg c1]
      refine ⟨e', fun d => ?_, e2, e3⟩
      rw [je_45, if_pos C.is, if_neg n1, if_neg n3]
      rcases four_no c1 with z | ⟨z1, z2, z3⟩
      · rw [if_pos z, e1, jk_cI]
      · rw [if_neg z1, if_neg z2, e1, jk_cI]
  · rw [if_neg c0]
    refine ⟨e', fun d => ?_, e2, e3⟩
    rw [je_45, if_pos C.is]
    rcases four_no c0 with z | ⟨z1, z2, z3⟩
    · rw [if_pos z, e1, jk_cI]
    · rw [if_neg z1, if_pos z3, e1, jk_cI]
theorem aa_copy (A : AWt σ) (k i o j n : Int32) : AWt (op_copy σ k i o j n).2 := by
  unfold op_copy
  split
  · split
    · rename_i c0 c1
      obtain ⟨x, hx, rfl⟩ := jp_four_iff.mp c0
      obtain ⟨y, hy, rfl⟩ := jp_four_iff.mp c1
      rw [pn_4 hx, pn_4 hy]
      split
      · rename_i ex q
        split
        · rename_i ey q'
          split
          · split
            · split
              · exact aa_ss A (ss_up A.ss _ (A.ss y ey hy q').1 (A.ss y ey hy q').2)
              · exact aa_er A
            · exact aa_er A
          · exact aa_er A
        · exact aa_er A
      · exact aa_er A
    · exact aa_er A
  · exact aa_er A
-- the reference
theorem rr_cp_1 {x a n : Nat} (hx : x < 4) {f : Nat → Int32} (o : jx_gR (jx_at h 336) 12 34 = some 447) (o' : jx_gR (jx_at h 336) 12 35 = some 448) (hn : a + n ≤ 24) (hf : ∀ t, t < n → jx_aI (jx_at h 447) 0 (Int32.ofNat (24 * x + a + t)) = some (f t)) (y j : Int32) : ∀ (m k : Nat) (G : Nat → Int32) (h1 : jxH), k + m = n → Fr (fun x => x = 448) h h1 → jx_at h1 448 = jxI 0 24 G → (∀ t, t < k → G t = f t) → ∃ G' h', (∀ d, jb_198 rc d 73 [(0, .ref 336), (1, .int (Int32.ofNat x)), (2, .int (Int32.ofNat a)), (3, .int y), (4, .int j), (5, .int (Int32.ofNat n)), (6, .int (Int32.ofNat k))] [] h1 = jb_198 rc d 94 [(0, .ref 336), (3, .int y), (4, .int j), (5, .int (Int32.ofNat n)), (6, .int 0)] [] h') ∧ Fr (fun x => x = 448) h h' ∧ jx_at h' 448 = jxI 0 24 G' ∧ ∀ t, t < n → G' t = f t
  | 0, k, G, h1, e, F, g, q => by
    refine ⟨G, h1, fun d => ?_, F, g, fun t ht => q t (by omega)⟩
    rw [je_198_73, if_pos (by rw [jk_le (by omega) (by omega)]; omega)]
  | m + 1, k, G, h1, e, F, g, q => by
    obtain ⟨G', h', r1, r2, r3, r4⟩ := rr_cp_1 hx o o' hn hf y j m (k + 1) (upd G k (f k)) (jx_set h1 448 (jxI 0 24 (upd G k (f k)))) (by omega) (F.trans Fr.one) (jk_at_self ..) (fun t ht => by
      unfold upd
      by_cases z : t = k
      · rw [if_pos z, z]
      · rw [if_neg z]; exact q t (by omega))
    refine ⟨G', h', fun d => ?_, r2, r3, r4⟩
    have o1 : jx_at h1 336 = jx_at h 336 := F.2.2 _ (by decide)
    rw [je_198_73, if_neg (by rw [jk_le (by omega) (by omega)]; omega), o1, o', jk_bs, o, jk_bs, F.2.2 447 (by decide), jk_24, jk_add2, hf k (by omega), jk_bs, g, jk_sI (by omega) (by decide), jk_bs, jk_succ]
    exact r1 d
theorem rr_cp_2 {y c n : Nat} (hy : y < 4) {G : Nat → Int32} (o : jx_gR (jx_at h 336) 12 34 = some 447) (o' : jx_gR (jx_at h 336) 12 35 = some 448) (hn : c + n ≤ 24) (g : jx_at h 448 = jxI 0 24 G) : ∀ (m k : Nat) (B : Nat → Int32) (h1 : jxH), k + m = n → Fr (fun x => x = 447) h h1 → jx_at h1 447 = jxI 0 96 B → ∃ B' h', (∀ d, jb_198 rc d 94 [(0, .ref 336), (3, .int (Int32.ofNat y)), (4, .int (Int32.ofNat c)), (5, .int (Int32.ofNat n)), (6, .int (Int32.ofNat k))] [] h1 = some (some (.int (Int32.ofNat n)), h')) ∧ Fr (fun x => x = 447) h h' ∧ jx_at h' 447 = jxI 0 96 B' ∧ (∀ t, k ≤ t → t < n → B' (24 * y + c + t) = G t) ∧ ∀ i, ¬ (24 * y + c + k ≤ i ∧ i < 24 * y + c + n) → B' i = B i
  | 0, k, B, h1, e, F, q => by
    refine ⟨B, h1, fun d => ?_, F, q, fun t h1 h2 => by omega, fun i _ => rfl⟩
    rw [je_198_94, if_pos (by rw [jk_le (by omega) (by omega)]; omega)]
  | m + 1, k, B, h1, e, F, q => by
    obtain ⟨B', h', r1, r2, r3, r4, r5⟩ := rr_cp_2 hy o o' hn g m (k + 1) (upd B (24 * y + c + k) (G k)) (jx_set h1 447 (jxI 0 96 (upd B (24 * y + c + k) (G k)))) (by omega) (F.trans Fr.one) (jk_at_self ..)
    refine ⟨B', h', fun d => ?_, r2, r3, fun t q1 q2 => ?_, fun i qi => ?_⟩
    · have o1 : jx_at h1 336 = jx_at h 336 := F.2.2 _ (by decide)
      rw [je_198_94, if_neg (by rw [jk_le (by omega) (by omega)]; omega), o1, o, jk_bs, o', jk_bs, F.2.2 448 (by decide), g, jk_aI (by omega) (by decide), jk_bs, q, jk_24, jk_add2, jk_sI (by omega) (by decide), jk_bs, jk_succ]
      exact r1 d
    · by_cases z : t = k
      · subst z
        rw [r5 _ (by omega)]
        unfold upd
        rw [if_pos rfl]
      · exact r4 t (by omega) q2
    · rw [r5 i (by omega)]
      unfold upd
      rw [if_neg (by omega)]
theorem cmp_gt {a n m : Nat} (hn : n < 2 ^ 31) (ha : a < 2 ^ 31) (hm : m ≤ 24) : (0 < lg_cmp ((Int32.ofNat a).toInt64 + (Int32.ofNat n).toInt64) (Int32.ofNat m).toInt64 ↔ m < a + n) ∧ (lg_cmp ((Int32.ofNat a).toInt64 + (Int32.ofNat n).toInt64) (Int32.ofNat m).toInt64 ≤ 0 ↔ a + n ≤ m) := by
  rw [lg_gt0, lg_cmp_le, Int64.lt_iff_toInt_lt, Int64.le_iff_toInt_le, Int64.toInt_add, Int32.toInt_toInt64, Int32.toInt_toInt64, Int32.toInt_toInt64, jk_int ha, jk_int hn, jk_int (by omega), Int.bmod_eq_of_le (by omega) (by omega)]
  omega
theorem rr_copy (R : RSt h σ) (A : AWt σ) (k i o j n : Int32) : ∃ h', (∀ d, jx_C rc (d + 20) 198 [.ref 336, .int k, .int i, .int o, .int j, .int n] h = some (some (.int (op_copy σ k i o j n).1), h')) ∧ RSt h' (op_copy σ k i o j n).2 ∧ rF h h' := by
  unfold op_copy
  obtain ⟨e', e1, e2, e3⟩ := rr_error (rc := rc) R A (k := 1) (by decide) (K := 1) rfl
  by_cases c0 : jp_four k = true
  · rw [if_pos c0]
    obtain ⟨x, hx, rfl⟩ := jp_four_iff.mp c0
    by_cases c1 : jp_four o = true
    · rw [if_pos c1]
      obtain ⟨y, hy, rfl⟩ := jp_four_iff.mp c1
      rw [pn_4 hx, pn_4 hy]
      have st : ∀ d, jx_C rc (d + 20) 198 [.ref 336, .int (Int32.ofNat x), .int i, .int (Int32.ofNat y), .int j, .int n] h = _ := fun d => by
        rw [je_198, if_pos R.is, rf_four, jk_cI, jk_if0, if_pos c0, rf_four, jk_cI, jk_if0, if_pos c1, R.g32, jk_bs, R.bits hx, jk_bs]
      obtain ⟨f', f1, f2, f3⟩ := rr_error (rc := rc) R A (k := 7) (by decide) (K := 7) rfl
      cases hex : sE σ x with
      | none =>
        refine ⟨f', fun d => ?_, f2, f3⟩
        rw [st d, hex, if_pos (show e_bits none = 0 from rfl), f1, jk_cI]
      | some ex =>
        have nbx := ss_b0 A hx hex
        cases hey : sE σ y with
        | none =>
          refine ⟨f', fun d => ?_, f2, f3⟩
          rw [st d, if_neg nbx, jk_bs, R.bits hy, jk_bs, hey, if_pos (show e_bits none = 0 from rfl), f1, jk_cI]
        | some ey =>
          have nby := ss_b0 A hy hey
          dsimp only
          have hnx := (A.ss x ex hx hex).2
          have hny := (A.ss y ey hy hey).2
          have st2 : ∀ d, jx_C rc (d + 20) 198 [.ref 336, .int (Int32.ofNat x), .int i, .int (Int32.ofNat y), .int j, .int n] h = _ := fun d => by
            rw [st d, if_neg nbx, jk_bs, R.bits hy, jk_bs, if_neg nby, jk_bs, R.bits hx, jk_bs, jk_bs, R.bits hy, jk_bs, hex, hey, show e_bits (some ex) = ex.1 from rfl, show e_bits (some ey) = ey.1 from rfl]
          by_cases cb : ex.1 = ey.1
          · rw [if_pos cb]
            have st3 := fun d => (st2 d).trans (if_pos cb)
            by_cases h1 : jq_holds ex i n = true
            · rw [if_pos h1]
              obtain ⟨a, m, rfl, rfl, l1⟩ := (jq_holds_iff hnx).mp h1
              have st4 : ∀ d, jx_C rc (d + 20) 198 [.ref 336, .int (Int32.ofNat x), .int (Int32.ofNat a), .int (Int32.ofNat y), .int j, .int (Int32.ofNat m)] h = _ := fun d => by
                rw [st3 d, if_neg (jk_nn (by omega)), if_neg (jk_nn (by omega)), R.g33, jk_bs, R.size hx, jk_bs, hex, show e_size (some ex) = ex.2.1 from rfl]
              by_cases h2 : jq_holds ey j (Int32.ofNat m) = true
              · rw [if_pos h2]
                obtain ⟨c, m', rfl, q, l2⟩ := (jq_holds_iff hny).mp h2
                have mm : m = m' := (jk_inj (by omega) (by omega)).mp q
                subst mm
                rw [show pn (Int32.ofNat a) = a from jk_cl (by omega), show pn (Int32.ofNat c) = c from jk_cl (by omega), show pn (Int32.ofNat m) = m from jk_cl (by omega)]
                obtain ⟨⟨B1, p1, p2⟩, ⟨B2, q1, q2⟩, ⟨B3, u1, u2⟩, ⟨B4, v1⟩⟩ := id R.ss
                obtain ⟨G, h1, r1, r2, r3, r4⟩ := rr_cp_1 (rc := rc) (h := h) (f := fun t => ex.2.2 (a + t)) hx R.g34 R.g35 (show a + m ≤ 24 by omega) (fun t ht => by rw [u1, jk_aI (by omega) (by decide), Nat.add_assoc, u2 x ex (a + t) hx hex (by omega)]) (Int32.ofNat y) (Int32.ofNat c) m 0 B4 h (by omega) Fr.rfl v1 (fun t ht => by omega)
                have o1 : jx_at h1 336 = jx_at h 336 := r2.2.2 _ (by decide)
                obtain ⟨B', h2, s1, s2, s3, s4, s5⟩ := rr_cp_2 (rc := rc) (h := h1) hy (by rw [o1]; exact R.g34) (by rw [o1]; exact R.g35) (show c + m ≤ 24 by omega) r3 m 0 B3 h1 (by omega) Fr.rfl ((r2.2.2 447 (by decide)).trans u1)
                have F : Fr (fun x => 445 ≤ x ∧ x < 449) h h2 := (r2.mono fun x q => by omega).trans (s2.mono fun x q => by omega)
                have kk : ∀ z, z ≠ 447 → z ≠ 448 → jx_at h2 z = jx_at h z := fun z z1 z2 => (s2.2.2 z z1).trans (r2.2.2 z z2)
                have K : m_ss h2 (va_up (sE σ) y (some (jq_cpy ex ey a c m))) := by
                  refine ⟨⟨B1, (kk _ (by decide) (by decide)).trans p1, fun i hi => ?_⟩, ⟨B2, (kk _ (by decide) (by decide)).trans q1, fun i hi => ?_⟩, ⟨B', s3, fun i e k hi w hk => ?_⟩, G, (s2.2.2 448 (by decide)).trans r3⟩
                  · unfold va_up
                    split
                    · rename_i z; subst z; rw [p2 i hi, hey]; rfl
                    · exact p2 i hi
                  · unfold va_up
                    split
                    · rename_i z; subst z; rw [q2 i hi, hey]; rfl
                    · exact q2 i hi
                  · unfold va_up at w
                    by_cases z : i = y
                    · rw [if_pos z] at w
                      subst z
                      cases w
                      have hk : k < ey.2.1 := hk
                      show B' (24 * i + k) = va_cpy ex.2.2 ey.2.2 a c m k
                      unfold va_cpy
                      by_cases zz : c ≤ k ∧ k < c + m
                      · rw [if_pos zz, show 24 * i + k = 24 * i + c + (k - c) by omega, s4 (k - c) (by omega) (by omega), r4 (k - c) (by omega)]
                      · rw [if_neg zz, s5 _ (by omega)]
                        exact u2 i ey k hi hey hk
                    · rw [if_neg z] at w
                      have l := (A.ss i e hi w).2
                      rw [s5 _ (by omega)]
                      exact u2 i e k hi w hk
                obtain ⟨R1, F1⟩ := RS_ss R A F (fun x q => q) K
                refine ⟨h2, fun d => ?_, R1, F1⟩
                rw [st4 d, if_neg (jk_nn (by omega)), if_neg (fun z => by have := (cmp_gt (a := a) (n := m) (m := ex.2.1) (by omega) (by omega) hnx).1.mp z; omega), jk_bs, R.size hy, jk_bs, hey, show e_size (some ey) = ey.2.1 from rfl, if_pos ((cmp_gt (a := c) (n := m) (m := ey.2.1) (by omega) (by omega) hny).2.mpr l2)]
                exact (r1 _).trans (s1 _)
              · rw [if_neg h2]
                refine ⟨e', fun d => ?_, e2, e3⟩
                rw [st4 d]
                by_cases j0 : j < 0
                · rw [if_pos j0, e1, jk_cI]
                · rw [if_neg j0, if_neg (fun z => by have := (cmp_gt (a := a) (n := m) (m := ex.2.1) (by omega) (by omega) hnx).1.mp z; omega), jk_bs, R.size hy, jk_bs, hey, show e_size (some ey) = ey.2.1 from rfl, jk_of j0, if_neg (fun z => h2 ((jq_holds_iff hny).mpr ⟨_, m, jk_of j0, rfl, (cmp_gt (a := j.toNatClampNeg) (n := m) (m := ey.2.1) (by omega) (jk_of_lt j) hny).2.mp z⟩)), e1, jk_cI]
            · rw [if_neg h1]
              refine ⟨e', fun d => ?_, e2, e3⟩
              rw [st3 d]
              by_cases n0 : n < 0
              · rw [if_pos n0, e1, jk_cI]
              · rw [if_neg n0]
                by_cases i0 : i < 0
                · rw [if_pos i0, e1, jk_cI]
                · rw [if_neg i0]
                  by_cases j0 : j < 0
                  · rw [if_pos j0, e1, jk_cI]
                  · rw [if_neg j0, R.g33, jk_bs, R.size hx, jk_bs, hex, show e_size (some ex) = ex.2.1 from rfl, jk_of i0, jk_of n0, if_pos ?_, e1, jk_cI]
                    rw [(cmp_gt (jk_of_lt n) (jk_of_lt i) hnx).1]
                    exact Nat.lt_of_not_le fun z => h1 ((jq_holds_iff hnx).mpr ⟨_, _, jk_of i0, jk_of n0, z⟩)
          · rw [if_neg cb]
            obtain ⟨g', g1, g2, g3⟩ := rr_error (rc := rc) R A (k := 6) (by decide) (K := 6) rfl
            refine ⟨g', fun d => ?_, g2, g3⟩
            rw [st2 d, if_neg cb, g1, jk_cI]
    · rw [if_neg c1]
      refine ⟨e', fun d => ?_, e2, e3⟩
      rw [je_198, if_pos R.is, rf_four, jk_cI, jk_if0, if_pos c0, rf_four, jk_cI, jk_if0, if_neg c1, e1, jk_cI]
  · rw [if_neg c0]
    refine ⟨e', fun d => ?_, e2, e3⟩
    rw [je_198, if_pos R.is, rf_four, jk_cI, jk_if0, if_neg c0, e1, jk_cI]
end
