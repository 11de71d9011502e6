/-! fraction(), both ways -/
noncomputable def jq_w2 (f : jF) (p q : Nat) : Int32 := if p = q then jk_bit p else jq_way f p q
def jq_fu (x y : Int64) : Int64 := if y.toInt < 0 then -x else if y = 0 then 1 else x
def jq_fl (y : Int64) : Int64 := if y.toInt < 0 then -y else y
noncomputable def jq_fx (f : jF) (p q : Nat) : Int64 := Int64.ofInt (MP f (jq_w2 f p q))
noncomputable def jq_fy (f : jF) (p q : Nat) : Int64 := Int64.ofInt (MP f (jq_w2 f p q &&& (jk_bit p ^^^ (-1))))
noncomputable def op_fraction (σ : jSt) (p q w : Int32) : Int32 × jSt := if jF_has (sF σ) p = true then (if jF_has (sF σ) q = true then (if jp_part w = true then (if bt (jt_T (sF σ) (pn q)) (pn p) = true then (if w = 0 then op_tell σ (jq_fu (jq_fx (sF σ) (pn p) (pn q)) (jq_fy (sF σ) (pn p) (pn q))) else op_tell σ (jq_fl (jq_fy (sF σ) (pn p) (pn q)))) else er σ 2) else er σ 1) else er σ 1) else er σ 1
section
variable {rc : Nat → Nat × (Nat → Int32)} {h h' : jxH} {σ : jSt} {P : Nat → Prop} {f : jF} {a b : Nat}
/-- fractionOf() -/
theorem rk_frac (K : rk_ok h a) (G : fo_at h b f) (W : jf_W f) (hab : b + 3 ≤ a ∨ a + 8 ≤ b) {p q : Nat} (hp : p < 12) (hq : q < 12) (sq : bt f.2.2 q = true) : ∃ h', (∀ d, jx_C rc (d + 6) 254 [.ref a, .ref b, .int (Int32.ofNat p), .int (Int32.ofNat q)] h = some (some (.int (jk_b (bt (jt_T f q) p))), h')) ∧ rk_ok h' a ∧ Fr (jI a 8) h h' ∧ (bt (jt_T f q) p = true → jx_gL (jx_at h' a) 2 4 = some (jq_fu (jq_fx f p q) (jq_fy f p q)) ∧ jx_gL (jx_at h' a) 2 5 = some (jq_fl (jq_fy f p q))) := by
  have z0 : (0 : Int64).toInt = 0 := by decide
  obtain ⟨⟨u, l, i1, i2, i3, i4, i5, i6, o⟩, w, ⟨g1, e1⟩, ⟨g2, e2⟩, g3, e3⟩ := id K
  obtain ⟨h1, X, r1, r2, r3, r4, r5⟩ := wk_path (rc := rc) w G W (by omega) hp hq sq
  have is2 : jx_is (jx_at h a) 2 = true := by rw [o]; rfl
  have F1 : Fr (jI a 8) h h1 := r3.mono fun x q => ⟨by have := q.1; omega, by have := q.2; omega⟩
  have o1 : jx_at h1 a = _ := (r3.2.2 a (fun z => by have := z.1; omega)).trans o
  have K1 : rk_ok h1 a := ⟨⟨u, l, i1, i2, i3, i4, i5, i6, o1⟩, r2, ⟨g1, (r3.2.2 _ (fun z => by have := z.2; omega)).trans e1⟩, ⟨g2, (r3.2.2 _ (fun z => by have := z.2; omega)).trans e2⟩, g3, (r3.2.2 _ (fun z => by have := z.2; omega)).trans e3⟩
  have st : ∀ d, jx_C rc (d + 6) 254 [.ref a, .ref b, .int (Int32.ofNat p), .int (Int32.ofNat q)] h = _ := fun d => by
    rw [je_254, if_pos is2, show jx_gR (jx_at h a) 2 0 = some (a + 1) by rw [o]; rfl, jk_bs, r1, jk_cI]
  by_cases tp : bt (jt_T f q) p = true
  · obtain ⟨x1, x2, x3⟩ := r4 tp
    have hX : X = jq_w2 f p q := by
      unfold jq_w2
      by_cases c : p = q
      · rw [if_pos c]; exact x3 c
      · rw [if_neg c]; exact (wy_eq x1).symm
    have Xn : ¬ X = 0 := fun z => by rw [z, bt_0] at x2; cases x2
    have hset : ∀ x, bt X x = true → x < 12 ∧ bt f.2.2 x = true := fun x hx => jt_T_in W.1 hq sq (x1.1 x hx)
    have G1 := fo_fr r3 (fun x a b z => by have := z.1; have := z.2; omega) G
    obtain ⟨h2, s1, s2, s3, s4⟩ := rk_minorOf (rc := rc) K1 G1 W hab hset
    rw [hX] at s1
    have o2 : jx_at h2 a = _ := s3.trans o1
    have F2 : Fr (jI a 8) h1 h2 := s4.mono fun x q => ⟨by have := q.1; omega, by have := q.2; omega⟩
    have fx : Int64.ofInt (MP f (jq_w2 f p q)) = jq_fx f p q := rfl
    have fy : Int64.ofInt (MP f (jq_w2 f p q &&& (jk_bit p ^^^ (-1)))) = jq_fy f p q := rfl
    rw [fx] at s1
    generalize jq_fx f p q = x at *
    generalize hy : jq_fy f p q = y at *
    have F3 : Fr (jI a 8) h2 (jx_set h2 a (jxO 2 [.ref (a + 1), .ref (a + 5), .ref (a + 6), .ref (a + 7), .long x, .long l, .int i1, .int i2, .int i3, .int i4, .int i5, .int i6])) := Fr.set ⟨by omega, by omega⟩
    obtain ⟨-, w', ⟨g1', e1'⟩, ⟨g2', e2'⟩, g3', e3'⟩ := id s2
    have Fa : Fr (fun x => x = a) h2 (jx_set h2 a (jxO 2 [.ref (a + 1), .ref (a + 5), .ref (a + 6), .ref (a + 7), .long x, .long l, .int i1, .int i2, .int i3, .int i4, .int i5, .int i6])) := Fr.one
    have K3 : rk_ok (jx_set h2 a (jxO 2 [.ref (a + 1), .ref (a + 5), .ref (a + 6), .ref (a + 7), .long x, .long l, .int i1, .int i2, .int i3, .int i4, .int i5, .int i6])) a := ⟨⟨_, _, _, _, _, _, _, _, jk_at_self ..⟩, wk_fr Fa (fun x a b => by omega) w', ⟨g1', (Fa.2.2 _ (by omega)).trans e1'⟩, ⟨g2', (Fa.2.2 _ (by omega)).trans e2'⟩, g3', (Fa.2.2 _ (by omega)).trans e3'⟩
    have G3 : fo_at (jx_set h2 a (jxO 2 [.ref (a + 1), .ref (a + 5), .ref (a + 6), .ref (a + 7), .long x, .long l, .int i1, .int i2, .int i3, .int i4, .int i5, .int i6])) b f := fo_fr Fa (fun x a b => by omega) (fo_fr s4 (fun x a b z => by have := z.1; have := z.2; omega) G1)
    obtain ⟨h4, t1, t2, t3, t4⟩ := rk_minorOf (rc := rc) (set := X &&& (jk_bit p ^^^ (-1))) K3 G3 W hab (fun x hx => hset x (by rw [bt_and] at hx; simp at hx; exact hx.1))
    rw [hX, fy] at t1
    have o4 : jx_at h4 a = jxO 2 [.ref (a + 1), .ref (a + 5), .ref (a + 6), .ref (a + 7), .long x, .long l, .int i1, .int i2, .int i3, .int i4, .int i5, .int i6] := t3.trans (jk_at_self ..)
    have F4 : Fr (jI a 8) (jx_set h2 a (jxO 2 [.ref (a + 1), .ref (a + 5), .ref (a + 6), .ref (a + 7), .long x, .long l, .int i1, .int i2, .int i3, .int i4, .int i5, .int i6])) h4 := t4.mono fun x q => ⟨by have := q.1; omega, by have := q.2; omega⟩
    have FA := F1.trans (F2.trans (F3.trans F4))
    obtain ⟨-, w5, ⟨g5, e5⟩, ⟨g6, e6⟩, g7, e7⟩ := id t2
    have done : ∀ (h5 : jxH) (U L : Int64), Fr (fun x => x = a) h4 h5 → jx_at h5 a = jxO 2 [.ref (a + 1), .ref (a + 5), .ref (a + 6), .ref (a + 7), .long U, .long L, .int i1, .int i2, .int i3, .int i4, .int i5, .int i6] → rk_ok h5 a ∧ Fr (jI a 8) h h5 ∧ jx_gL (jx_at h5 a) 2 4 = some U ∧ jx_gL (jx_at h5 a) 2 5 = some L := fun h5 U L F5 o5 => ⟨⟨⟨_, _, _, _, _, _, _, _, o5⟩, wk_fr F5 (fun x a b => by omega) w5, ⟨g5, (F5.2.2 _ (by omega)).trans e5⟩, ⟨g6, (F5.2.2 _ (by omega)).trans e6⟩, g7, (F5.2.2 _ (by omega)).trans e7⟩, FA.trans (F5.mono fun x q => ⟨by omega, by omega⟩), by rw [o5]; rfl, by rw [o5]; rfl⟩
    have t1' := fun d => t1 d
    unfold jk_bit at t1'
    have pf4 : ∀ U L v : Int64, jx_pF (jxO 2 [.ref (a + 1), .ref (a + 5), .ref (a + 6), .ref (a + 7), .long U, .long L, .int i1, .int i2, .int i3, .int i4, .int i5, .int i6]) 2 4 (.long v) = some (jxO 2 [.ref (a + 1), .ref (a + 5), .ref (a + 6), .ref (a + 7), .long v, .long L, .int i1, .int i2, .int i3, .int i4, .int i5, .int i6]) := fun _ _ _ => rfl
    have pf5 : ∀ U L v : Int64, jx_pF (jxO 2 [.ref (a + 1), .ref (a + 5), .ref (a + 6), .ref (a + 7), .long U, .long L, .int i1, .int i2, .int i3, .int i4, .int i5, .int i6]) 2 5 (.long v) = some (jxO 2 [.ref (a + 1), .ref (a + 5), .ref (a + 6), .ref (a + 7), .long U, .long v, .int i1, .int i2, .int i3, .int i4, .int i5, .int i6]) := fun _ _ _ => rfl
    have gl4 : ∀ U L : Int64, jx_gL (jxO 2 [.ref (a + 1), .ref (a + 5), .ref (a + 6), .ref (a + 7), .long U, .long L, .int i1, .int i2, .int i3, .int i4, .int i5, .int i6]) 2 4 = some U := fun _ _ => rfl
    have gl5 : ∀ U L : Int64, jx_gL (jxO 2 [.ref (a + 1), .ref (a + 5), .ref (a + 6), .ref (a + 7), .long U, .long L, .int i1, .int i2, .int i3, .int i4, .int i5, .int i6]) 2 5 = some L := fun _ _ => rfl
    have st2 : ∀ d, jx_C rc (d + 6) 254 [.ref a, .ref b, .int (Int32.ofNat p), .int (Int32.ofNat q)] h = _ := fun d => by
      rw [st d, if_neg Xn, hX, s1, jk_cL, o2, pf4, jk_bs, t1', jk_cL, o4, pf5, jk_bs, jk_at_self, gl5, jk_bs]
    by_cases c1 : y.toInt < 0
    · obtain ⟨d1, d2, d3, d4⟩ := done (jx_set h4 a (jxO 2 [.ref (a + 1), .ref (a + 5), .ref (a + 6), .ref (a + 7), .long (-x), .long (-y), .int i1, .int i2, .int i3, .int i4, .int i5, .int i6])) (-x) (-y) Fr.one (jk_at_self ..)
      refine ⟨_, fun d => ?_, d1, d2, fun _ => ?_⟩
      · rw [st2 d, if_neg (by rw [lg_cmp_ge, Int64.le_iff_toInt_le, z0]; omega), gl4, jk_bs, pf4, jk_bs, jk_at_self, gl5, jk_bs, pf5, jk_bs, if_pos jk_b1, jk_set_set, jk_set_set, tp]
        rfl
      · unfold jq_fu jq_fl
        rw [if_pos c1, if_pos c1]; exact ⟨d3, d4⟩
    · by_cases c2 : y = 0
      · obtain ⟨d1, d2, d3, d4⟩ := done (jx_set h4 a (jxO 2 [.ref (a + 1), .ref (a + 5), .ref (a + 6), .ref (a + 7), .long 1, .long y, .int i1, .int i2, .int i3, .int i4, .int i5, .int i6])) 1 y Fr.one (jk_at_self ..)
        refine ⟨_, fun d => ?_, d1, d2, fun _ => ?_⟩
        · rw [st2 d, if_pos (by rw [lg_cmp_ge, Int64.le_iff_toInt_le, z0]; omega), jk_bs, if_pos ((lg_eq0 _ _).mpr c2), pf4, jk_bs, if_pos jk_b1, jk_set_set, tp]
          rfl
        · unfold jq_fu jq_fl
          rw [if_neg c1, if_neg c1, if_pos c2]; exact ⟨d3, d4⟩
      · obtain ⟨d1, d2, d3, d4⟩ := done (jx_set h4 a (jxO 2 [.ref (a + 1), .ref (a + 5), .ref (a + 6), .ref (a + 7), .long x, .long y, .int i1, .int i2, .int i3, .int i4, .int i5, .int i6])) x y Fr.one (jk_at_self ..)
        refine ⟨_, fun d => ?_, d1, d2, fun _ => ?_⟩
        · rw [st2 d, if_pos (by rw [lg_cmp_ge, Int64.le_iff_toInt_le, z0]; omega), jk_bs, if_neg (fun z => c2 ((lg_eq0 _ _).mp z)), if_pos jk_b1, tp]
          rfl
        · unfold jq_fu jq_fl
          rw [if_neg c1, if_neg c1, if_neg c2]; exact ⟨d3, d4⟩
  · have tp' : bt (jt_T f q) p = false := by simpa using tp
    refine ⟨h1, fun d => ?_, K1, F1, fun z => absurd z tp⟩
    rw [st d, r5 tp', if_pos rfl, if_pos jk_r0', tp']
    rfl
theorem cc_fraction (C : CSt h σ) (A : AWt σ) (p q w : Int32) : ∃ h', (∀ d, jx_C rc (d + 20) 20 [.ref 0, .int p, .int q, .int w] h = some (some (.int (op_fraction σ p q w).1), h')) ∧ CSt h' (op_fraction σ p q w).2 ∧ cF h h' := by
  unfold op_fraction
  obtain ⟨e', e1, e2, e3⟩ := cc_refuse (rc := rc) C A (k := 1) (by decide) (by decide) (K := 1) rfl
  by_cases c0 : jF_has (sF σ) p = true
  · rw [if_pos c0]
    obtain ⟨k, hk, rfl, sk⟩ := jF_has_iff.mp c0
    rw [show pn (Int32.ofNat k) = k from jk_cl (by omega)]
    by_cases c1 : jF_has (sF σ) q = true
    · rw [if_pos c1]
      obtain ⟨l, hl, rfl, sl⟩ := jF_has_iff.mp c1
      rw [show pn (Int32.ofNat l) = l from jk_cl (by omega)]
      by_cases cw : jp_part w = true
      · rw [if_pos cw]
        obtain ⟨h1, r1, r2, r3, r4⟩ := rk_frac (rc := rc) (a := 178) (b := 2) (f := sF σ) C.scr.2.2.2.1 C.F A.W (by omega) hk hl sl
        obtain ⟨C1, F1⟩ := cc_rk C A r3 r2
        have st : ∀ d, jx_C rc (d + 20) 20 [.ref 0, .int (Int32.ofNat k), .int (Int32.ofNat l), .int w] h = _ := fun d => by
          rw [je_20, if_pos C.is, C.g1, jk_bs, fo_has C.F, jk_cI, jk_if0, if_pos c0, C.g1, jk_bs, fo_has C.F, jk_cI, jk_if0, if_pos c1, cl_isPart, jk_cI, jk_if0, if_pos cw, C.g6, jk_bs, C.g1, jk_bs, r1, jk_cI, jk_if0]
        by_cases tp : bt (jt_T (sF σ) l) k = true
        · rw [if_pos tp]
          obtain ⟨u1, u2⟩ := r4 tp
          by_cases w0 : w = 0
          · rw [if_pos w0]
            obtain ⟨g', g1, g2, g3⟩ := cc_tell (rc := rc) C1 A (jq_fu (jq_fx (sF σ) k l) (jq_fy (sF σ) k l))
            refine ⟨g', fun d => ?_, g2, F1.trans0 ⟨r3.1, r3.2.1⟩ g3⟩
            rw [st d, if_pos tp, if_pos w0, C1.g6, jk_bs, u1, jk_bs, g1, jk_cI]
          · rw [if_neg w0]
            obtain ⟨g', g1, g2, g3⟩ := cc_tell (rc := rc) C1 A (jq_fl (jq_fy (sF σ) k l))
            refine ⟨g', fun d => ?_, g2, F1.trans0 ⟨r3.1, r3.2.1⟩ g3⟩
            rw [st d, if_pos tp, if_neg w0, C1.g6, jk_bs, u2, jk_bs, g1, jk_cI]
        · rw [if_neg tp]
          obtain ⟨g', g1, g2, g3⟩ := cc_refuse (rc := rc) C1 A (k := 2) (by decide) (by decide) (K := 2) rfl
          refine ⟨g', fun d => ?_, g2, F1.trans0 ⟨r3.1, r3.2.1⟩ g3⟩
          rw [st d, if_neg tp, g1, jk_cI]
      · rw [if_neg cw]
        refine ⟨e', fun d => ?_, e2, e3⟩
        rw [je_20, if_pos C.is, C.g1, jk_bs, fo_has C.F, jk_cI, jk_if0, if_pos c0, C.g1, jk_bs, fo_has C.F, jk_cI, jk_if0, if_pos c1, cl_isPart, jk_cI, jk_if0, if_neg cw, e1, jk_cI]
    · rw [if_neg c1]
      refine ⟨e', fun d => ?_, e2, e3⟩
      rw [je_20, if_pos C.is, C.g1, jk_bs, fo_has C.F, jk_cI, jk_if0, if_pos c0, C.g1, jk_bs, fo_has C.F, jk_cI, jk_if0, if_neg c1, e1, jk_cI]
  · rw [if_neg c0]
    refine ⟨e', fun d => ?_, e2, e3⟩
    rw [je_20, if_pos C.is, C.g1, jk_bs, fo_has C.F, jk_cI, jk_if0, if_neg c0, e1, jk_cI]
theorem aa_fraction (A : AWt σ) (p q w : Int32) : AWt (op_fraction σ p q w).2 := by
  unfold op_fraction
  split
  · split
    · split
      · split
        · split
          · exact aa_tell A _
          · exact aa_tell A _
        · exact aa_er A
      · exact aa_er A
    · exact aa_er A
  · exact aa_er A
end
