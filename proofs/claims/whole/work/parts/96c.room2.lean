/-! room(), oneRoom(): the class -/
def jq_rn (f : jF) (T : Int32) : Int64 := rN (Int64.ofInt (MP f T))
def jq_rm (f : jF) (T : Int32) : Int64 := rM (Int64.ofInt (MP f T)) (Int64.ofInt (MP f (T &&& (jk_bit ((jq_end f T 12 0).getD 0) ^^^ (-1)))))
def op_room (σ : jSt) (p w : Int32) : Int32 × jSt := if jF_has (sF σ) p = true then (if jp_part w = true then (if jq_ln (sF σ) (jt_T (sF σ) (pn p)) 12 0 = true then (if 1073741823 < (jq_rn (sF σ) (jt_T (sF σ) (pn p))).toInt then er σ 5 else if w = 0 then ((jq_rn (sF σ) (jt_T (sF σ) (pn p))).toInt32, σ) else ((jq_rm (sF σ) (jt_T (sF σ) (pn p))).toInt32, σ)) else er σ 3) else er σ 1) else er σ 1
def jq_one (f : jF) (T U : Int32) : Int32 := if jq_rn f T = jq_rn f U then (if jq_rm f T = jq_rm f U then 1 else if jq_rm f T * jq_rm f U - jq_rm f T * jq_rm f U / jq_rn f T * jq_rn f T = 1 then 1 else 0) else 0
def op_oneRoom (σ : jSt) (p q : Int32) : Int32 × jSt := if jF_has (sF σ) p = true then (if jF_has (sF σ) q = true then (if jq_ln (sF σ) (jt_T (sF σ) (pn p)) 12 0 = true then (if jq_ln (sF σ) (jt_T (sF σ) (pn q)) 12 0 = true then (if 1073741823 < (jq_rn (sF σ) (jt_T (sF σ) (pn p))).toInt then er σ 5 else if 1073741823 < (jq_rn (sF σ) (jt_T (sF σ) (pn q))).toInt then er σ 5 else (jq_one (sF σ) (jt_T (sF σ) (pn p)) (jt_T (sF σ) (pn q)), σ)) else er σ 3) else er σ 3) else er σ 1) else er σ 1
theorem rN_int {x : Int64} (h : x ≠ Int64.minValue) : (rN x).toInt = x.toInt.natAbs := by
  have l := Int64.le_toInt x
  have u := Int64.toInt_lt x
  have m : x.toInt ≠ -2 ^ 63 := fun z => h (Int64.toInt_inj.1 (by rw [z]; decide))
  unfold rN
  split
  · omega
  · rw [Int64.toInt_neg, Int.bmod_eq_of_le (by omega) (by omega)]; omega
theorem jq_rn_int {f : jF} (B : jf_B f) (T : Int32) : (jq_rn f T).toInt = (MP f T).natAbs := by
  unfold jq_rn
  rw [rN_int (MP_min B T), MP_int B T]
theorem jq_r_facts {f : jF} (B : jf_B f) (T : Int32) : 0 ≤ (jq_rn f T).toInt ∧ 0 ≤ (jq_rm f T).toInt ∧ ((jq_rm f T).toInt ≤ 1 ∨ (jq_rm f T).toInt < (jq_rn f T).toInt) ∧ ((jq_rn f T).toInt = 0 → jq_rm f T = 1) ∧ ((jq_rn f T).toInt = 1 → jq_rm f T = 0) := by
  have e := jq_rn_int B T
  have xi := MP_int B T
  have z0 : (0 : Int64).toInt = 0 := by decide
  have z1 : (1 : Int64).toInt = 1 := by decide
  unfold jq_rm rM
  by_cases c : Int64.ofInt (MP f T) = 0
  · rw [if_pos c]
    rw [c, z0] at xi
    refine ⟨by omega, by rw [z1]; decide, Or.inl (by rw [z1]; decide), fun _ => rfl, fun h => by omega⟩
  · rw [if_neg c]
    have nz : MP f T ≠ 0 := fun w => c (Int64.toInt_inj.1 (by rw [xi, w, z0]))
    have np : 0 < (rN (Int64.ofInt (MP f T))).toInt := by
      have : (rN (Int64.ofInt (MP f T))).toInt = (MP f T).natAbs := e
      omega
    have r := fun x => jl_fm_range (x := x) np
    refine ⟨by omega, (r _).1, Or.inr (r _).2, fun h => by omega, fun h => jl_fm_1 h⟩
theorem tell_ok {σ : jSt} {v : Int64} (h1 : 0 ≤ v.toInt) (h2 : v.toInt ≤ 1073741823) : op_tell σ v = (v.toInt32, σ) := by
  unfold op_tell
  rw [if_neg, if_neg]
  · rw [Int64.lt_iff_toInt_lt, show (1073741823 : Int64).toInt = 1073741823 from by decide]; omega
  · rw [Int64.lt_iff_toInt_lt, show (-1073741824 : Int64).toInt = -1073741824 from by decide]; omega
section
variable {rc : Nat → Nat × (Nat → Int32)} {h h' : jxH} {σ : jSt} {P : Nat → Prop} {f : jF} {a b : Nat}
theorem cmp_max (v : Int64) : (lg_cmp v 1073741823 ≤ 0 ↔ ¬ 1073741823 < v.toInt) ∧ (0 < lg_cmp v 1073741823 ↔ 1073741823 < v.toInt) := by
  rw [lg_cmp_le, lg_gt0, Int64.le_iff_toInt_le, Int64.lt_iff_toInt_lt, show (1073741823 : Int64).toInt = 1073741823 from by decide]
  omega
theorem cc_roomOf (C : CSt h σ) (A : AWt σ) {p : Nat} (hp : p < 12) (sp : bt (sF σ).2.2 p = true) : ∃ h', (∀ d, jx_C rc (d + 7) 255 [.ref 178, .ref 2, .int (jt_T (sF σ) p)] h = some (none, h')) ∧ CSt h' σ ∧ cF h h' ∧ h'.1 = h.1 ∧ h'.2.1 = h.2.1 ∧ jx_gL (jx_at h' 178) 2 4 = some (jq_rn (sF σ) (jt_T (sF σ) p)) ∧ jx_gL (jx_at h' 178) 2 5 = some (jq_rm (sF σ) (jt_T (sF σ) p)) := by
  obtain ⟨j, hj⟩ := jq_end_T A.W hp sp
  obtain ⟨h1, r1, r2, r3, r4, r5⟩ := rk_room (rc := rc) (a := 178) C.scr.2.2.2.1 C.F A.W (by omega) (fun x hx => jt_T_in A.B hp sp hx) hj
  obtain ⟨C1, F1⟩ := cc_rk C A r5 r2
  refine ⟨h1, r1, C1, F1, r5.1, r5.2.1, r3, ?_⟩
  unfold jq_rm
  rw [hj]
  exact r4
theorem cc_room (C : CSt h σ) (A : AWt σ) (p w : Int32) : ∃ h', (∀ d, jx_C rc (d + 20) 21 [.ref 0, .int p, .int w] h = some (some (.int (op_room σ p w).1), h')) ∧ CSt h' (op_room σ p w).2 ∧ cF h h' := by
  unfold op_room
  obtain ⟨e', e1, e2, e3⟩ := cc_refuse (rc := rc) C A (k := 1) (by decide) (by decide) (K := 1) rfl
  by_cases c0 : jF_has (sF σ) p = true
  · rw [if_pos c0]
    obtain ⟨k, hk, rfl, sk⟩ := jF_has_iff.mp c0
    rw [show pn (Int32.ofNat k) = k from jk_cl (by omega)]
    by_cases c1 : jp_part w = true
    · rw [if_pos c1]
      obtain ⟨h1, r1, C1, F1, u1, u2⟩ := cc_treeOf (rc := rc) C A hk sk
      have st : ∀ d, jx_C rc (d + 20) 21 [.ref 0, .int (Int32.ofNat k), .int w] h = _ := fun d => by
        rw [je_21, if_pos C.is, C.g1, jk_bs, fo_has C.F, jk_cI, jk_if0, if_pos c0, cl_isPart, jk_cI, jk_if0, if_pos c1, r1, jk_cI, C1.g1, jk_bs, fo_line C1.F A.B, jk_cI, jk_if0]
      by_cases c2 : jq_ln (sF σ) (jt_T (sF σ) k) 12 0 = true
      · rw [if_pos c2]
        obtain ⟨h2, s1, C2, F2, v1, v2, v3, v4⟩ := cc_roomOf (rc := rc) C1 A hk sk
        have st2 : ∀ d, jx_C rc (d + 20) 21 [.ref 0, .int (Int32.ofNat k), .int w] h = _ := fun d => by
          rw [st d, if_pos c2, C1.g6, jk_bs, C1.g1, jk_bs, s1, jk_cV, C2.g6, jk_bs, v3, jk_bs]
        have FF := F1.trans0 ⟨u1, u2⟩ F2
        have l1 : h2.1 = h.1 := v1.trans u1
        have l2 : h2.2.1 = h.2.1 := v2.trans u2
        obtain ⟨f1, f2, f3, -, -⟩ := jq_r_facts A.B (jt_T (sF σ) k)
        by_cases c3 : 1073741823 < (jq_rn (sF σ) (jt_T (sF σ) k)).toInt
        · rw [if_pos c3]
          obtain ⟨g', g1, g2, g3⟩ := cc_refuse (rc := rc) C2 A (k := 5) (by decide) (by decide) (K := 5) rfl
          refine ⟨g', fun d => ?_, g2, FF.trans0 ⟨l1, l2⟩ g3⟩
          rw [st2 d, if_neg (fun z => (cmp_max _).1.mp z c3), g1, jk_cI]
        · rw [if_neg c3]
          have st3 := fun d => (st2 d).trans (if_pos ((cmp_max _).1.mpr c3))
          by_cases w0 : w = 0
          · rw [if_pos w0]
            obtain ⟨g', g1, g2, g3⟩ := cc_tell (rc := rc) C2 A (jq_rn (sF σ) (jt_T (sF σ) k))
            rw [tell_ok f1 (by omega)] at g1 g2
            refine ⟨g', fun d => ?_, g2, FF.trans0 ⟨l1, l2⟩ g3⟩
            rw [st3 d, if_pos w0, jk_bs, v3, jk_bs, g1, jk_cI]
          · rw [if_neg w0]
            obtain ⟨g', g1, g2, g3⟩ := cc_tell (rc := rc) C2 A (jq_rm (sF σ) (jt_T (sF σ) k))
            rw [tell_ok f2 (by omega)] at g1 g2
            refine ⟨g', fun d => ?_, g2, FF.trans0 ⟨l1, l2⟩ g3⟩
            rw [st3 d, if_neg w0, jk_bs, v4, jk_bs, g1, jk_cI]
      · rw [if_neg c2]
        obtain ⟨g', g1, g2, g3⟩ := cc_refuse (rc := rc) C1 A (k := 3) (by decide) (by decide) (K := 3) rfl
        refine ⟨g', fun d => ?_, g2, F1.trans0 ⟨u1, u2⟩ g3⟩
        rw [st d, if_neg c2, g1, jk_cI]
    · rw [if_neg c1]
      refine ⟨e', fun d => ?_, e2, e3⟩
      rw [je_21, if_pos C.is, C.g1, jk_bs, fo_has C.F, jk_cI, jk_if0, if_pos c0, cl_isPart, jk_cI, jk_if0, if_neg c1, e1, jk_cI]
  · rw [if_neg c0]
    refine ⟨e', fun d => ?_, e2, e3⟩
    rw [je_21, if_pos C.is, C.g1, jk_bs, fo_has C.F, jk_cI, jk_if0, if_neg c0, e1, jk_cI]
theorem aa_room (A : AWt σ) (p w : Int32) : AWt (op_room σ p w).2 := by
  unfold op_room
  repeat' split
  all_goals first | exact A | exact aa_er A
theorem cc_oneRoom (C : CSt h σ) (A : AWt σ) (p q : Int32) : ∃ h', (∀ d, jx_C rc (d + 20) 22 [.ref 0, .int p, .int q] h = some (some (.int (op_oneRoom σ p q).1), h')) ∧ CSt h' (op_oneRoom σ p q).2 ∧ cF h h' := by
  unfold op_oneRoom
  obtain ⟨e', e1, e2, e3⟩ := cc_refuse (rc := rc) C A (k := 1) (by decide) (by decide) (K := 1) rfl
  by_cases c0 : jF_has (sF σ) p = true
  · rw [if_pos c0]
    obtain ⟨k, hk, rfl, sk⟩ := jF_has_iff.mp c0
    rw [show pn (Int32.ofNat k) = k from jk_cl (by omega)]
    by_cases c1 : jF_has (sF σ) q = true
    · rw [if_pos c1]
      obtain ⟨l, hl, rfl, sl⟩ := jF_has_iff.mp c1
      rw [show pn (Int32.ofNat l) = l from jk_cl (by omega)]
      obtain ⟨h1, r1, C1, F1, u1, u2⟩ := cc_treeOf (rc := rc) C A hk sk
      obtain ⟨h2, s1, C2, F2, v1, v2⟩ := cc_treeOf (rc := rc) C1 A hl sl
      have FA := F1.trans0 ⟨u1, u2⟩ F2
      have st : ∀ d, jx_C rc (d + 20) 22 [.ref 0, .int (Int32.ofNat k), .int (Int32.ofNat l)] h = _ := fun d => by
        rw [je_22, if_pos C.is, C.g1, jk_bs, fo_has C.F, jk_cI, jk_if0, if_pos c0, C.g1, jk_bs, fo_has C.F, jk_cI, jk_if0, if_pos c1, r1, jk_cI, s1, jk_cI, C2.g1, jk_bs, fo_line C2.F A.B, jk_cI, jk_if0]
      obtain ⟨g', g1, g2, g3⟩ := cc_refuse (rc := rc) C2 A (k := 3) (by decide) (by decide) (K := 3) rfl
      by_cases c2 : jq_ln (sF σ) (jt_T (sF σ) k) 12 0 = true
      · rw [if_pos c2]
        by_cases c3 : jq_ln (sF σ) (jt_T (sF σ) l) 12 0 = true
        · rw [if_pos c3]
          obtain ⟨h3, t1, C3, F3, x1, x2, x3, x4⟩ := cc_roomOf (rc := rc) C2 A hk sk
          obtain ⟨h4, t1', C4, F4, y1, y2, y3, y4⟩ := cc_roomOf (rc := rc) C3 A hl sl
          have st2 : ∀ d, jx_C rc (d + 20) 22 [.ref 0, .int (Int32.ofNat k), .int (Int32.ofNat l)] h = _ := fun d => by
            rw [st d, if_pos c2, C2.g1, jk_bs, fo_line C2.F A.B, jk_cI, jk_if0, if_pos c3, C2.g6, jk_bs, C2.g1, jk_bs, t1, jk_cV, C3.g6, jk_bs, x3, jk_bs, jk_bs, x4, jk_bs, jk_bs, C3.g1, jk_bs, t1', jk_cV]
          have FB := FA.trans0 ⟨v1.trans u1, v2.trans u2⟩ (F3.trans0 ⟨x1, x2⟩ F4)
          have l1 : h4.1 = h.1 := y1.trans (x1.trans (v1.trans u1))
          have l2 : h4.2.1 = h.2.1 := y2.trans (x2.trans (v2.trans u2))
          obtain ⟨m', m1, m2, m3⟩ := cc_refuse (rc := rc) C4 A (k := 5) (by decide) (by decide) (K := 5) rfl
          obtain ⟨f1, f2, f3, f4, f5⟩ := jq_r_facts A.B (jt_T (sF σ) k)
          obtain ⟨d1, d2, d3, d4, d5⟩ := jq_r_facts A.B (jt_T (sF σ) l)
          by_cases c4 : 1073741823 < (jq_rn (sF σ) (jt_T (sF σ) k)).toInt
          · rw [if_pos c4]
            refine ⟨m', fun d => ?_, m2, FB.trans0 ⟨l1, l2⟩ m3⟩
            rw [st2 d, if_pos ((cmp_max _).2.mpr c4), m1, jk_cI]
          rw [if_neg c4]
          by_cases c5 : 1073741823 < (jq_rn (sF σ) (jt_T (sF σ) l)).toInt
          · rw [if_pos c5]
            refine ⟨m', fun d => ?_, m2, FB.trans0 ⟨l1, l2⟩ m3⟩
            rw [st2 d, if_neg (fun z => c4 ((cmp_max _).2.mp z)), C4.g6, jk_bs, y3, jk_bs, if_neg (fun z => (cmp_max _).1.mp z c5), m1, jk_cI]
          rw [if_neg c5]
          have st3 : ∀ d, jx_C rc (d + 20) 22 [.ref 0, .int (Int32.ofNat k), .int (Int32.ofNat l)] h = _ := fun d => by
            rw [st2 d, if_neg (fun z => c4 ((cmp_max _).2.mp z)), C4.g6, jk_bs, y3, jk_bs, if_pos ((cmp_max _).1.mpr c5), jk_bs, y3, jk_bs]
          refine ⟨h4, fun d => ?_, C4, FB⟩
          unfold jq_one
          by_cases c6 : jq_rn (sF σ) (jt_T (sF σ) k) = jq_rn (sF σ) (jt_T (sF σ) l)
          · rw [if_pos c6]
            by_cases c7 : jq_rm (sF σ) (jt_T (sF σ) k) = jq_rm (sF σ) (jt_T (sF σ) l)
            · rw [if_pos c7, st3 d, if_pos ((lg_eq0 _ _).mpr c6), jk_bs, y4, jk_bs, if_pos ((lg_eq0 _ _).mpr c7)]
            · rw [if_neg c7, st3 d, if_pos ((lg_eq0 _ _).mpr c6), jk_bs, y4, jk_bs, if_neg (fun z => c7 ((lg_eq0 _ _).mp z))]
              have z0 : (0 : Int64).toInt = 0 := by decide
              have np : 0 < (jq_rn (sF σ) (jt_T (sF σ) k)).toInt := by
                rcases Nat.eq_zero_or_pos (jq_rn (sF σ) (jt_T (sF σ) k)).toInt.toNat with z | z
                · have e0 : (jq_rn (sF σ) (jt_T (sF σ) k)).toInt = 0 := by omega
                  exact absurd ((f4 e0).trans (d4 (by rw [← c6]; exact e0)).symm) c7
                · omega
              rw [if_neg (by rw [lg_cmp_le, Int64.le_iff_toInt_le, z0]; omega), jk_bs, y4, jk_bs, if_neg (fun z => by rw [z, z0] at np; omega)]
              by_cases c8 : jq_rm (sF σ) (jt_T (sF σ) k) * jq_rm (sF σ) (jt_T (sF σ) l) - jq_rm (sF σ) (jt_T (sF σ) k) * jq_rm (sF σ) (jt_T (sF σ) l) / jq_rn (sF σ) (jt_T (sF σ) k) * jq_rn (sF σ) (jt_T (sF σ) k) = 1
              · rw [if_pos c8, if_pos ((lg_eq0 _ _).mpr c8)]
              · rw [if_neg c8, if_neg (fun z => c8 ((lg_eq0 _ _).mp z))]
          · rw [if_neg c6, st3 d, if_neg (fun z => c6 ((lg_eq0 _ _).mp z))]
        · rw [if_neg c3]
          refine ⟨g', fun d => ?_, g2, FA.trans0 ⟨v1.trans u1, v2.trans u2⟩ g3⟩
          rw [st d, if_pos c2, C2.g1, jk_bs, fo_line C2.F A.B, jk_cI, jk_if0, if_neg c3, g1, jk_cI]
      · rw [if_neg c2]
        refine ⟨g', fun d => ?_, g2, FA.trans0 ⟨v1.trans u1, v2.trans u2⟩ g3⟩
        rw [st d, if_neg c2, g1, jk_cI]
    · rw [if_neg c1]
      refine ⟨e', fun d => ?_, e2, e3⟩
      rw [je_22, if_pos C.is, C.g1, jk_bs, fo_has C.F, jk_cI, jk_if0, if_pos c0, C.g1, jk_bs, fo_has C.F, jk_cI, jk_if0, if_neg c1, e1, jk_cI]
  · rw [if_neg c0]
    refine ⟨e', fun d => ?_, e2, e3⟩
    rw [je_22, if_pos C.is, C.g1, jk_bs, fo_has C.F, jk_cI, jk_if0, if_neg c0, e1, jk_cI]
theorem aa_oneRoom (A : AWt σ) (p q : Int32) : AWt (op_oneRoom σ p q).2 := by
  unfold op_oneRoom
  repeat' split
  all_goals first | exact A | exact aa_er A
end
