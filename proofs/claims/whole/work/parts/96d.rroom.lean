/-! room(), oneRoom(): the reference -/
section
variable {rc : Nat → Nat × (Nat → Int32)} {h h' : jxH} {σ : jSt} {P : Nat → Prop} {f : jF}
theorem rr_382 {g' : Nat → Int64} (R : RSt h σ) (A : AWt σ) (F : Fr (fun x => x = 382) h h') (G : jx_at h' 382 = jxL 4096 g') : RSt h' σ ∧ rF h h' := by
  refine ⟨RS_scr R A F (fun x q => by unfold m_scrP; omega) ?_, rF.scr F (fun x q => by unfold m_scrP; omega)⟩
  obtain ⟨-, ⟨g2, a2⟩, ⟨g3, a3⟩, a4, a5, ⟨f6, a6⟩, ⟨g7, a7⟩, a8, a9, ⟨g10, a10⟩, a11, a12, ⟨g13, a13⟩, ⟨g14, a14⟩, ⟨g15, a15⟩, a16, a17⟩ := R.scr
  have k : ∀ x, x ≠ 382 → jx_at h' x = jx_at h x := fun x hx => F.2.2 x hx
  refine ⟨⟨_, G⟩, ⟨g2, (k _ (by omega)).trans a2⟩, ⟨g3, (k _ (by omega)).trans a3⟩, rows_fr F (by omega) a4, fun i hi => ?_, ⟨f6, ro_fr F (by omega) a6⟩, ⟨g7, (k _ (by omega)).trans a7⟩, rows_fr F (by omega) a8, fun i hi => ?_, ⟨g10, (k _ (by omega)).trans a10⟩, rows_fr F (by omega) a11, fun i hi => ?_, ⟨g13, (k _ (by omega)).trans a13⟩, ⟨g14, (k _ (by omega)).trans a14⟩, ⟨g15, (k _ (by omega)).trans a15⟩, rows_fr F (by omega) a16, fun i hi => ?_⟩
  · obtain ⟨g, e⟩ := a5 i hi; exact ⟨g, (k _ (by omega)).trans e⟩
  · obtain ⟨g, e⟩ := a9 i hi; exact ⟨g, (k _ (by omega)).trans e⟩
  · obtain ⟨g, e⟩ := a12 i hi; exact ⟨g, (k _ (by omega)).trans e⟩
  · obtain ⟨f, g⟩ := a17 i hi; exact ⟨f, ro_fr F (by omega) g⟩
/-- layMinors() -/
theorem rr_lay (R : RSt h σ) (A : AWt σ) : ∃ h' g', (∀ d, jx_C rc (d + 4) 117 [.ref 336] h = some (none, h')) ∧ RSt h' σ ∧ rF h h' ∧ jx_at h' 382 = jxL 4096 g' ∧ ∀ j, j < 4096 → sub (Int32.ofNat j) (sF σ).2.2 → g' j = Int64.ofInt (MP (sF σ) (Int32.ofNat j)) := by
  obtain ⟨g, hg⟩ := R.scr.1
  obtain ⟨h1, g', r1, r2, r3, r4⟩ := rf_layMinors (rc := rc) R.M R.F A.B hg
  obtain ⟨R1, F1⟩ := rr_382 R A r4 r2
  exact ⟨h1, g', r1, R1, F1, r2, r3⟩
theorem sub_S12 (A : AWt σ) {s : Int32} (hs : sub s (sF σ).2.2) : S12 s := fun k hk => by
  cases q : bt s k
  · rfl
  · have := hs k q; rw [A.B.s k hk] at this; cases this
theorem mp_read (A : AWt σ) {g' : Nat → Int64} (G : jx_at h 382 = jxL 4096 g') (H : ∀ j, j < 4096 → sub (Int32.ofNat j) (sF σ).2.2 → g' j = Int64.ofInt (MP (sF σ) (Int32.ofNat j))) {s : Int32} (hs : sub s (sF σ).2.2) : jx_aL (jx_at h 382) s = some (Int64.ofInt (MP (sF σ) s)) := by
  obtain ⟨n, hn, rfl⟩ := S12_nat (sub_S12 A hs)
  rw [G, jk_aL hn (by decide), H n hn hs]
theorem rr_line_l (R : RSt h σ) (A : AWt σ) (T : Int32) (d : Nat) : ∀ (m k : Nat), k + m = 12 → jb_144 rc (d + 1) 2 [(0, .ref 336), (1, .int T), (2, .int (Int32.ofNat k))] [] h = some (some (.int (jk_b (jq_ln (sF σ) T m k))), h)
  | 0, k, e => by
    obtain rfl : k = 12 := by omega
    rw [je_144_2, if_pos (by decide), if_pos jk_b1]; rfl
  | m + 1, k, e => by
    have hk : k < 12 := by omega
    have i := rr_line_l R A T d m (k + 1) (by omega)
    unfold jq_ln
    rw [je_144_2, if_neg (jk_n12 hk), rf_has _ _ (by omega), jk_cI, jk_if0]
    by_cases c : bt T k = true
    · rw [if_pos c, if_pos c, R.g1, jk_bs, ro_n R.F hk, jk_bs, rf_many, jk_cI]
      by_cases c2 : bc ((sF σ).2.1 k) ≤ 2
      · rw [if_pos ((jk_le2' _).mpr c2), if_pos c2, jk_succ]; exact i
      · rw [if_neg (fun z => c2 ((jk_le2' _).mp z)), if_neg c2, if_pos jk_r0']; rfl
    · rw [if_neg c, if_neg c, jk_succ]; exact i
theorem rr_line (R : RSt h σ) (A : AWt σ) (T : Int32) (d : Nat) : jx_C rc (d + 2) 144 [.ref 336, .int T] h = some (some (.int (jk_b (jq_ln (sF σ) T 12 0))), h) := by
  rw [je_144, if_pos R.is]
  exact rr_line_l R A T d 12 0 (by omega)
theorem rr_roomN (R : RSt h σ) (A : AWt σ) {T : Int32} (hT : sub T (sF σ).2.2) : ∃ h', (∀ d, jx_C rc (d + 6) 145 [.ref 336, .int T] h = some (some (.long (jq_rn (sF σ) T)), h')) ∧ RSt h' σ ∧ rF h h' := by
  obtain ⟨h1, r1, r2, r3⟩ := rr_minorOf (rc := rc) R A hT
  refine ⟨h1, fun d => ?_, r2, r3⟩
  rw [je_145, if_pos R.is, r1, jk_cL]
  unfold jq_rn rN
  have z0 : (0 : Int64).toInt = 0 := by decide
  by_cases c : 0 ≤ (Int64.ofInt (MP (sF σ) T)).toInt
  · rw [if_pos c, if_pos (by rw [lg_cmp_ge, Int64.le_iff_toInt_le, z0]; exact c)]
  · rw [if_neg c, if_neg (by rw [lg_cmp_ge, Int64.le_iff_toInt_le, z0]; exact c)]
theorem rr_rM (d : Nat) {x y : Int64} (hx : x ≠ Int64.minValue) (h0 : ¬ x = 0) : jb_146 rc d 49 [(3, .long x), (5, .long y)] [.long (rN x)] h = some (some (.long (rM x y)), h) := by
  have z0 : (0 : Int64).toInt = 0 := by decide
  have e := rN_int hx
  have nz : x.toInt ≠ 0 := fun w => h0 (Int64.toInt_inj.1 (by rw [w, z0]))
  unfold rM jl_fm
  rw [je_146_49, if_neg h0]
  have nn : ¬ rN x = 0 := fun w => by rw [w, z0] at e; omega
  by_cases c : x.toInt ≤ 0
  · rw [if_pos (by rw [lg_cmp_le, Int64.le_iff_toInt_le, z0]; exact c), if_pos c, if_neg nn]
    by_cases c2 : 0 ≤ (y - y / rN x * rN x).toInt
    · rw [if_pos c2, if_pos (by rw [lg_cmp_ge, Int64.le_iff_toInt_le, z0]; exact c2)]
    · rw [if_neg c2, if_neg (by rw [lg_cmp_ge, Int64.le_iff_toInt_le, z0]; exact c2)]
  · rw [if_neg (by rw [lg_cmp_le, Int64.le_iff_toInt_le, z0]; exact c), if_neg c, if_neg nn]
    by_cases c2 : 0 ≤ ((-y) - (-y) / rN x * rN x).toInt
    · rw [if_pos c2, if_pos (by rw [lg_cmp_ge, Int64.le_iff_toInt_le, z0]; exact c2)]
    · rw [if_neg c2, if_neg (by rw [lg_cmp_ge, Int64.le_iff_toInt_le, z0]; exact c2)]
theorem rr_roomM_l (R : RSt h σ) (A : AWt σ) {T : Int32} (hT : sub T (sF σ).2.2) {j : Nat} (hj : jq_end (sF σ) T 12 0 = some j) : ∀ (m k : Nat), k + m = 12 → jq_end (sF σ) T m k = some j → ∃ h', (∀ d, jb_146 rc (d + 4) 2 [(0, .ref 336), (1, .int T), (2, .int (Int32.ofNat k))] [] h = some (some (.long (jq_rm (sF σ) T)), h')) ∧ RSt h' σ ∧ rF h h'
  | 0, k, e, q => by cases q
  | m + 1, k, e, q => by
    have hk : k < 12 := by omega
    unfold jq_end at q
    by_cases c : bt T k = true ∧ bc ((sF σ).2.1 k) ≤ 1
    · rw [if_pos c] at q
      injection q with q
      subst q
      obtain ⟨h1, g', r1, R1, F1, r2, r3⟩ := rr_lay (rc := rc) R A
      have hs : sub (T &&& (jk_bit k ^^^ (-1))) (sF σ).2.2 := sub_clr hT _
      have z0 : (0 : Int64).toInt = 0 := by decide
      refine ⟨h1, fun d => ?_, R1, F1⟩
      have rd := mp_read A r2 r3 hs
      unfold jk_bit at rd
      rw [je_146_2, rf_has _ _ (by omega), jk_cI, jk_if0, if_pos c.1, R.g1, jk_bs, ro_n R.F hk, jk_bs, rf_many, jk_cI, if_pos ((jk_le1 _).mpr c.2), r1, jk_cV, R1.g6, jk_bs, mp_read A r2 r3 hT, jk_bs, jk_bs, rd, jk_bs]
      unfold jq_rm
      rw [hj]
      by_cases x0 : Int64.ofInt (MP (sF σ) T) = 0
      · rw [if_pos ((lg_eq0 _ _).mpr x0)]
        unfold rM
        rw [if_pos x0]
      · rw [if_neg (fun z => x0 ((lg_eq0 _ _).mp z))]
        have L := fun y => rr_rM (rc := rc) (h := h1) (d + 4) (y := y) (MP_min A.B T) x0
        unfold jk_bit at *
        by_cases cx : 0 ≤ (Int64.ofInt (MP (sF σ) T)).toInt
        · rw [if_pos (by rw [lg_cmp_ge, Int64.le_iff_toInt_le, z0]; exact cx)]
          have := L (Int64.ofInt (MP (sF σ) (T &&& ((1 : Int32) <<< (Int32.ofNat k &&& 31) ^^^ (-1)))))
          rw [show rN (Int64.ofInt (MP (sF σ) T)) = Int64.ofInt (MP (sF σ) T) by unfold rN; rw [if_pos cx]] at this
          exact this
        · rw [if_neg (by rw [lg_cmp_ge, Int64.le_iff_toInt_le, z0]; exact cx)]
          have := L (Int64.ofInt (MP (sF σ) (T &&& ((1 : Int32) <<< (Int32.ofNat k &&& 31) ^^^ (-1)))))
          rw [show rN (Int64.ofInt (MP (sF σ) T)) = -Int64.ofInt (MP (sF σ) T) by unfold rN; rw [if_neg cx]] at this
          exact this
    · rw [if_neg c] at q
      obtain ⟨h1, r1, r2⟩ := rr_roomM_l R A hT hj m (k + 1) (by omega) q
      refine ⟨h1, fun d => ?_, r2⟩
      rw [je_146_2, rf_has _ _ (by omega), jk_cI, jk_if0]
      by_cases c1 : bt T k = true
      · rw [if_pos c1, R.g1, jk_bs, ro_n R.F hk, jk_bs, rf_many, jk_cI, if_neg (fun z => c ⟨c1, (jk_le1 _).mp z⟩), jk_succ]
        exact r1 d
      · rw [if_neg c1, jk_succ]
        exact r1 d
theorem rr_roomM (R : RSt h σ) (A : AWt σ) {p : Nat} (hp : p < 12) (sp : bt (sF σ).2.2 p = true) : ∃ h', (∀ d, jx_C rc (d + 5) 146 [.ref 336, .int (jt_T (sF σ) p)] h = some (some (.long (jq_rm (sF σ) (jt_T (sF σ) p))), h')) ∧ RSt h' σ ∧ rF h h' := by
  obtain ⟨j, hj⟩ := jq_end_T A.W hp sp
  obtain ⟨h1, r1, r2⟩ := rr_roomM_l (rc := rc) R A (fun x hx => (jt_T_in A.B hp sp hx).2) hj 12 0 (by omega) hj
  refine ⟨h1, fun d => ?_, r2⟩
  rw [je_146, if_pos R.is]
  exact r1 d
theorem rf_isOver {v : Int64} (hv : 0 ≤ v.toInt) (d : Nat) : jx_C rc (d + 2) 147 [.long v] h = some (some (.int (jk_b (decide (1073741823 < v.toInt)))), h) := by
  have e : jp_bt v (-1073741824) 1073741823 = !decide (1073741823 < v.toInt) := by
    unfold jp_bt
    have n : ¬ v < -1073741824 := fun z => by
      rw [Int64.lt_iff_toInt_lt, show (-1073741824 : Int64).toInt = -1073741824 from by decide] at z; omega
    have k : (1073741823 < v) ↔ 1073741823 < v.toInt := by rw [Int64.lt_iff_toInt_lt, show (1073741823 : Int64).toInt = 1073741823 from by decide]
    rw [if_neg n]
    by_cases c : 1073741823 < v.toInt
    · rw [if_pos (k.mpr c), decide_eq_true c]; rfl
    · rw [if_neg (fun z => c (k.mp z)), decide_eq_false c]; rfl
  rw [je_147, rf_in, jk_cI, jk_if0, e]
  by_cases c : 1073741823 < v.toInt
  · rw [decide_eq_true c, if_neg (by decide), if_pos jk_b1]; rfl
  · rw [decide_eq_false c, if_pos (by decide), if_pos jk_r0']; rfl
theorem rr_room (R : RSt h σ) (A : AWt σ) (p w : Int32) : ∃ h', (∀ d, jx_C rc (d + 20) 148 [.ref 336, .int p, .int w] h = some (some (.int (op_room σ p w).1), h')) ∧ RSt h' (op_room σ p w).2 ∧ rF h h' := by
  unfold op_room
  obtain ⟨e', e1, e2, e3⟩ := rr_error (rc := rc) R A (k := 1) (by decide) (K := 1) rfl
  by_cases c0 : jF_has (sF σ) p = true
  · rw [if_pos c0]
    obtain ⟨k, hk, rfl, sk⟩ := jF_has_iff.mp c0
    rw [show pn (Int32.ofNat k) = k from jk_cl (by omega)]
    have hT : sub (jt_T (sF σ) k) (sF σ).2.2 := fun x hx => (jt_T_in A.B hk sk hx).2
    by_cases c1 : jp_part w = true
    · rw [if_pos c1]
      have st : ∀ d, jx_C rc (d + 20) 148 [.ref 336, .int (Int32.ofNat k), .int w] h = _ := fun d => by
        rw [je_148, if_pos R.is, rr_isVertex R, jk_cI, jk_if0, if_pos c0, rf_in, jk_cI, jk_if0, show (1 : Int64) = (1 : Int32).toInt64 from rfl, jp_bt_hi, jp_part_hi, if_pos c1, R.g1, jk_bs, rf_treeOf R.F A.B.n hk, jk_cI, rr_line R A, jk_cI, jk_if0]
      by_cases c2 : jq_ln (sF σ) (jt_T (sF σ) k) 12 0 = true
      · rw [if_pos c2]
        obtain ⟨f1, f2, f3, -, -⟩ := jq_r_facts A.B (jt_T (sF σ) k)
        obtain ⟨h1, r1, R1, F1⟩ := rr_roomN (rc := rc) R A hT
        have st2 : ∀ d, jx_C rc (d + 20) 148 [.ref 336, .int (Int32.ofNat k), .int w] h = _ := fun d => by
          rw [st d, if_pos c2, r1, jk_cL, rf_isOver f1, jk_cI, jk_if0]
        by_cases c3 : 1073741823 < (jq_rn (sF σ) (jt_T (sF σ) k)).toInt
        · rw [if_pos c3]
          obtain ⟨g', g1, g2, g3⟩ := rr_error (rc := rc) R1 A (k := 5) (by decide) (K := 5) rfl
          refine ⟨g', fun d => ?_, g2, F1.trans g3⟩
          rw [st2 d, if_pos (decide_eq_true c3), g1, jk_cI]
        · rw [if_neg c3]
          have st3 := fun d => (st2 d).trans (if_neg (fun z => c3 (of_decide_eq_true z)))
          by_cases w0 : w = 0
          · rw [if_pos w0]
            obtain ⟨h2, s1, R2, F2⟩ := rr_roomN (rc := rc) R1 A hT
            refine ⟨h2, fun d => ?_, R2, F1.trans F2⟩
            rw [st3 d, if_pos w0, s1, jk_cL]
          · rw [if_neg w0]
            obtain ⟨h2, s1, R2, F2⟩ := rr_roomM (rc := rc) R1 A hk sk
            refine ⟨h2, fun d => ?_, R2, F1.trans F2⟩
            rw [st3 d, if_neg w0, s1, jk_cL]
      · rw [if_neg c2]
        obtain ⟨g', g1, g2, g3⟩ := rr_error (rc := rc) R A (k := 3) (by decide) (K := 3) rfl
        refine ⟨g', fun d => ?_, g2, g3⟩
        rw [st d, if_neg c2, g1, jk_cI]
    · rw [if_neg c1]
      refine ⟨e', fun d => ?_, e2, e3⟩
      rw [je_148, if_pos R.is, rr_isVertex R, jk_cI, jk_if0, if_pos c0, rf_in, jk_cI, jk_if0, show (1 : Int64) = (1 : Int32).toInt64 from rfl, jp_bt_hi, jp_part_hi, if_neg c1, e1, jk_cI]
  · rw [if_neg c0]
    refine ⟨e', fun d => ?_, e2, e3⟩
    rw [je_148, if_pos R.is, rr_isVertex R, jk_cI, jk_if0, if_neg c0, e1, jk_cI]
theorem rr_oneRoom (R : RSt h σ) (A : AWt σ) (p q : Int32) : ∃ h', (∀ d, jx_C rc (d + 20) 149 [.ref 336, .int p, .int q] h = some (some (.int (op_oneRoom σ p q).1), h')) ∧ RSt h' (op_oneRoom σ p q).2 ∧ rF h h' := by
  unfold op_oneRoom
  obtain ⟨e', e1, e2, e3⟩ := rr_error (rc := rc) R A (k := 1) (by decide) (K := 1) rfl
  by_cases c0 : jF_has (sF σ) p = true
  · rw [if_pos c0]
    obtain ⟨k, hk, rfl, sk⟩ := jF_has_iff.mp c0
    rw [show pn (Int32.ofNat k) = k from jk_cl (by omega)]
    have hT : sub (jt_T (sF σ) k) (sF σ).2.2 := fun x hx => (jt_T_in A.B hk sk hx).2
    by_cases c1 : jF_has (sF σ) q = true
    · rw [if_pos c1]
      obtain ⟨l, hl, rfl, sl⟩ := jF_has_iff.mp c1
      rw [show pn (Int32.ofNat l) = l from jk_cl (by omega)]
      have hU : sub (jt_T (sF σ) l) (sF σ).2.2 := fun x hx => (jt_T_in A.B hl sl hx).2
      have st : ∀ d, jx_C rc (d + 20) 149 [.ref 336, .int (Int32.ofNat k), .int (Int32.ofNat l)] h = _ := fun d => by
        rw [je_149, if_pos R.is, rr_isVertex R, jk_cI, jk_if0, if_pos c0, rr_isVertex R, jk_cI, jk_if0, if_pos c1, R.g1, jk_bs, rf_treeOf R.F A.B.n hk, jk_cI, R.g1, jk_bs, rf_treeOf R.F A.B.n hl, jk_cI, rr_line R A, jk_cI, jk_if0]
      obtain ⟨g', g1, g2, g3⟩ := rr_error (rc := rc) R A (k := 3) (by decide) (K := 3) rfl
      by_cases c2 : jq_ln (sF σ) (jt_T (sF σ) k) 12 0 = true
      · rw [if_pos c2]
        by_cases c3 : jq_ln (sF σ) (jt_T (sF σ) l) 12 0 = true
        · rw [if_pos c3]
          obtain ⟨f1, f2, f3, f4, f5⟩ := jq_r_facts A.B (jt_T (sF σ) k)
          obtain ⟨d1, d2, d3, d4, d5⟩ := jq_r_facts A.B (jt_T (sF σ) l)
          obtain ⟨h1, r1, R1, F1⟩ := rr_roomN (rc := rc) R A hT
          have st2 : ∀ d, jx_C rc (d + 20) 149 [.ref 336, .int (Int32.ofNat k), .int (Int32.ofNat l)] h = _ := fun d => by
            rw [st d, if_pos c2, rr_line R A, jk_cI, jk_if0, if_pos c3, r1, jk_cL, rf_isOver f1, jk_cI, jk_if0]
          by_cases c4 : 1073741823 < (jq_rn (sF σ) (jt_T (sF σ) k)).toInt
          · rw [if_pos c4]
            obtain ⟨m', m1, m2, m3⟩ := rr_error (rc := rc) R1 A (k := 5) (by decide) (K := 5) rfl
            refine ⟨m', fun d => ?_, m2, F1.trans m3⟩
            rw [st2 d, if_pos (decide_eq_true c4), m1, jk_cI]
          rw [if_neg c4]
          obtain ⟨h2, s1, R2, F2⟩ := rr_roomN (rc := rc) R1 A hU
          have st3 : ∀ d, jx_C rc (d + 20) 149 [.ref 336, .int (Int32.ofNat k), .int (Int32.ofNat l)] h = _ := fun d => by
            rw [st2 d, if_neg (fun z => c4 (of_decide_eq_true z)), s1, jk_cL, rf_isOver d1, jk_cI, jk_if0]
          by_cases c5 : 1073741823 < (jq_rn (sF σ) (jt_T (sF σ) l)).toInt
          · rw [if_pos c5]
            obtain ⟨m', m1, m2, m3⟩ := rr_error (rc := rc) R2 A (k := 5) (by decide) (K := 5) rfl
            refine ⟨m', fun d => ?_, m2, (F1.trans F2).trans m3⟩
            rw [st3 d, if_pos (decide_eq_true c5), m1, jk_cI]
          rw [if_neg c5]
          obtain ⟨h3, t1, R3, F3⟩ := rr_roomN (rc := rc) R2 A hT
          obtain ⟨h4, u1, R4, F4⟩ := rr_roomN (rc := rc) R3 A hU
          have st4 : ∀ d, jx_C rc (d + 20) 149 [.ref 336, .int (Int32.ofNat k), .int (Int32.ofNat l)] h = _ := fun d => by
            rw [st3 d, if_neg (fun z => c5 (of_decide_eq_true z)), t1, jk_cL, u1, jk_cL]
          have FA := ((F1.trans F2).trans F3).trans F4
          unfold jq_one
          by_cases c6 : jq_rn (sF σ) (jt_T (sF σ) k) = jq_rn (sF σ) (jt_T (sF σ) l)
          · rw [if_pos c6]
            have st5 := fun d => (st4 d).trans (if_pos ((lg_eq0 _ _).mpr c6))
            have z0 : (0 : Int64).toInt = 0 := by decide
            have z2 : (2 : Int64).toInt = 2 := by decide
            by_cases c9 : (jq_rn (sF σ) (jt_T (sF σ) k)).toInt < 2
            · have same : jq_rm (sF σ) (jt_T (sF σ) k) = jq_rm (sF σ) (jt_T (sF σ) l) := by
                by_cases e0 : (jq_rn (sF σ) (jt_T (sF σ) k)).toInt = 0
                · exact (f4 e0).trans (d4 (by rw [← c6]; exact e0)).symm
                · have e1 : (jq_rn (sF σ) (jt_T (sF σ) k)).toInt = 1 := by omega
                  exact (f5 e1).trans (d5 (by rw [← c6]; exact e1)).symm
              rw [if_pos same]
              refine ⟨h4, fun d => ?_, R4, FA⟩
              rw [st5 d, if_pos (by rw [lg_lt0, Int64.lt_iff_toInt_lt, z2]; exact c9)]
            · obtain ⟨h5, v1, R5, F5⟩ := rr_roomM (rc := rc) R4 A hk sk
              obtain ⟨h6, w1, R6, F6⟩ := rr_roomM (rc := rc) R5 A hl sl
              have st6 : ∀ d, jx_C rc (d + 20) 149 [.ref 336, .int (Int32.ofNat k), .int (Int32.ofNat l)] h = _ := fun d => by
                rw [st5 d, if_neg (by rw [lg_lt0, Int64.lt_iff_toInt_lt, z2]; exact c9), v1, jk_cL, w1, jk_cL]
              by_cases c7 : jq_rm (sF σ) (jt_T (sF σ) k) = jq_rm (sF σ) (jt_T (sF σ) l)
              · rw [if_pos c7]
                refine ⟨h6, fun d => ?_, R6, (FA.trans F5).trans F6⟩
                rw [st6 d, if_pos ((lg_eq0 _ _).mpr c7)]
              · rw [if_neg c7]
                obtain ⟨h7, v1', R7, F7⟩ := rr_roomM (rc := rc) R6 A hk sk
                obtain ⟨h8, w1', R8, F8⟩ := rr_roomM (rc := rc) R7 A hl sl
                refine ⟨h8, fun d => ?_, R8, (((FA.trans F5).trans F6).trans F7).trans F8⟩
                rw [st6 d, if_neg (fun z => c7 ((lg_eq0 _ _).mp z)), v1', jk_cL, w1', jk_cL, if_neg (fun z => by rw [z, z0] at c9; omega)]
                by_cases c8 : jq_rm (sF σ) (jt_T (sF σ) k) * jq_rm (sF σ) (jt_T (sF σ) l) - jq_rm (sF σ) (jt_T (sF σ) k) * jq_rm (sF σ) (jt_T (sF σ) l) / jq_rn (sF σ) (jt_T (sF σ) k) * jq_rn (sF σ) (jt_T (sF σ) k) = 1
                · rw [if_pos c8, if_pos ((lg_eq0 _ _).mpr c8)]
                · rw [if_neg c8, if_neg (fun z => c8 ((lg_eq0 _ _).mp z))]
          · rw [if_neg c6]
            refine ⟨h4, fun d => ?_, R4, FA⟩
            rw [st4 d, if_neg (fun z => c6 ((lg_eq0 _ _).mp z))]
        · rw [if_neg c3]
          refine ⟨g', fun d => ?_, g2, g3⟩
          rw [st d, if_pos c2, rr_line R A, jk_cI, jk_if0, if_neg c3, g1, jk_cI]
      · rw [if_neg c2]
        refine ⟨g', fun d => ?_, g2, g3⟩
        rw [st d, if_neg c2, g1, jk_cI]
    · rw [if_neg c1]
      refine ⟨e', fun d => ?_, e2, e3⟩
      rw [je_149, if_pos R.is, rr_isVertex R, jk_cI, jk_if0, if_pos c0, rr_isVertex R, jk_cI, jk_if0, if_neg c1, e1, jk_cI]
  · rw [if_neg c0]
    refine ⟨e', fun d => ?_, e2, e3⟩
    rw [je_149, if_pos R.is, rr_isVertex R, jk_cI, jk_if0, if_neg c0, e1, jk_cI]
end
