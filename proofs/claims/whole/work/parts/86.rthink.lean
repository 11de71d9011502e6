/-! In thought to the end: the reference; rest() -/
section
variable {rc : Nat → Nat × (Nat → Int32)} {h h' : jxH} {σ : jSt} {P : Nat → Prop} {g : jF} {b : Nat}
theorem rr_th (R : RSt h σ) (A : AWt σ) {i : Nat} (hi : i < 6) (F : Fr (fun x => x = 439 + i) h h') (G : ro_at h' (439 + i) g) : RSt h' σ ∧ rF h h' := by
  refine ⟨RS_scr R A F (fun x q => by unfold m_scrP; omega) ?_, rF.scr F (fun x q => by unfold m_scrP; omega)⟩
  obtain ⟨⟨g1, a1⟩, ⟨g2, a2⟩, ⟨g3, a3⟩, a4, a5, ⟨f6, a6⟩, ⟨g7, a7⟩, a8, a9, ⟨g10, a10⟩, a11, a12, ⟨g13, a13⟩, ⟨g14, a14⟩, ⟨g15, a15⟩, a16, a17⟩ := R.scr
  have k : ∀ x, x ≠ 439 + i → jx_at h' x = jx_at h x := fun x hx => F.2.2 x hx
  refine ⟨⟨g1, (k _ (by omega)).trans a1⟩, ⟨g2, (k _ (by omega)).trans a2⟩, ⟨g3, (k _ (by omega)).trans a3⟩, rows_fr F (by omega) a4, fun i hi => ?_, ⟨f6, ro_fr F (by omega) a6⟩, ⟨g7, (k _ (by omega)).trans a7⟩, rows_fr F (by omega) a8, fun i hi => ?_, ⟨g10, (k _ (by omega)).trans a10⟩, rows_fr F (by omega) a11, fun i hi => ?_, ⟨g13, (k _ (by omega)).trans a13⟩, ⟨g14, (k _ (by omega)).trans a14⟩, ⟨g15, (k _ (by omega)).trans a15⟩, rows_fr F (by omega) a16, fun l hl => ?_⟩
  · obtain ⟨g, e⟩ := a5 i hi; exact ⟨g, (k _ (by omega)).trans e⟩
  · obtain ⟨g, e⟩ := a9 i hi; exact ⟨g, (k _ (by omega)).trans e⟩
  · obtain ⟨g, e⟩ := a12 i hi; exact ⟨g, (k _ (by omega)).trans e⟩
  · by_cases z : l = i
    · subst z; exact ⟨g, G⟩
    · obtain ⟨f, q⟩ := a17 l hl; exact ⟨f, ro_fr F (by omega) q⟩
theorem RSt.g28 (R : RSt h σ) : jx_gR (jx_at h 336) 12 28 = some 438 := R.M.g 28 438 (by intros; rfl)
theorem RSt.th (R : RSt h σ) : m_rows h 438 6 439 := by
  obtain ⟨-, -, -, -, -, -, -, -, -, -, -, -, -, -, -, a16, -⟩ := R.scr
  exact a16
theorem rr_end_l {kind : Int32} {s : Nat} (hs : s ≤ 9) (A : AWt σ) : ∀ (m k : Nat) (h : jxH) (g : jF), bc g.2.2 ≤ m → RSt h σ → ro_at h 439 g → jf_W g → ∃ h', (∀ d, jb_185 rc (d + 8) 16 [(1, .int kind), (2, .int (Int32.ofNat s)), (3, .ref 439), (4, .int (Int32.ofNat k)), (5, .int (jn_code (jn_plan g kind s)))] [] h = some (some (.int (Int32.ofNat (k + (jw_end m g kind s).1))), h')) ∧ RSt h' σ ∧ rF h h' ∧ ro_at h' 439 (jw_end m g kind s).2
  | 0, k, h, g, l, R, G, W => by
    have hp := jw_end_stop (kind := kind) (s := s) 0 g W l
    rw [show (jw_end 0 g kind s).2 = g from rfl] at hp
    refine ⟨h, fun d => ?_, R, Fr.rfl, G⟩
    rw [je_185_16b, hp, if_pos (by decide)]
    rfl
  | m + 1, k, h, g, l, R, G, W => by
    have Wp := jn_W_plan g kind s
    obtain ⟨g1, g2⟩ := jn_code_ge Wp
    cases hp : jn_plan g kind s with
    | none =>
      have e0 : jw_end (m + 1) g kind s = (0, g) := by unfold jw_end; rw [hp]
      rw [e0]
      refine ⟨h, fun d => ?_, R, Fr.rfl, G⟩
      rw [je_185_16b, if_pos (by decide)]
      rfl
    | some x =>
      obtain ⟨kk, j⟩ := x
      obtain ⟨w1, w2, w3⟩ := Wp kk j hp
      obtain ⟨q1, q2⟩ := g2 kk j hp
      have q0 : ¬ jn_code (some (kk, j)) < 0 := by
        have := g1.mpr (by rw [hp]; rfl)
        rw [hp] at this
        rw [Int32.le_iff_toInt_le] at this
        rw [Int32.lt_iff_toInt_lt]; omega
      rw [hp] at q1 q2
      obtain ⟨h1, t1, t2, t3⟩ := rf_does (rc := rc) G W.1 (kk, Int32.ofNat j, 0, 0, 0) w3
      dsimp only at t1
      obtain ⟨R1, F1⟩ := rr_th (i := 0) R A (by decide) t3 t2
      have W1 := jf_W_act W w3
      have less := jn_less W.1 w1 w2 w3
      have e1 : jw_end (m + 1) g kind s = ((jw_end m (jf_act g (kk, Int32.ofNat j, 0, 0, 0)) kind s).1 + 1, (jw_end m (jf_act g (kk, Int32.ofNat j, 0, 0, 0)) kind s).2) := by
        conv => lhs; unfold jw_end
        rw [hp]
      rw [e1]
      obtain ⟨h3, u1, u2, u3, u4⟩ := rr_end_l hs A m (k + 1) h1 (jf_act g (kk, Int32.ofNat j, 0, 0, 0)) (by omega) R1 t2 W1
      rw [show k + ((jw_end m (jf_act g (kk, Int32.ofNat j, 0, 0, 0)) kind s).1 + 1) = k + 1 + (jw_end m (jf_act g (kk, Int32.ofNat j, 0, 0, 0)) kind s).1 by omega]
      have N := fun d => rf_nextOf (rc := rc) t2 W1.1.n kind (mm := s) (by omega) d
      refine ⟨h3, fun d => ?_, u2, F1.trans u3, u4⟩
      rw [je_185_16b, if_neg q0, if_neg (by decide), if_neg (by decide), q2, q1, show d + 8 = (d + 2) + 6 from rfl, t1, jk_cV, show d + 2 + 6 = d + 8 from rfl, N, jk_cI, jk_succ]
      exact u1 d
/-- toTheEnd() -/
theorem rr_end (R : RSt h σ) (A : AWt σ) (kind : Int32) {s : Nat} (hs : s ≤ 9) : ∃ h', (∀ d, jx_C rc (d + 9) 185 [.ref 336, .int kind, .int (Int32.ofNat s)] h = some (some (.int (Int32.ofNat (jw_end 12 (sF σ) kind s).1)), h')) ∧ RSt h' σ ∧ rF h h' ∧ ro_at h' 439 (jw_end 12 (sF σ) kind s).2 := by
  obtain ⟨-, -, -, -, -, -, -, -, -, -, -, -, -, -, -, -, a17⟩ := R.scr
  obtain ⟨f0, p0⟩ := a17 0 (by decide)
  obtain ⟨h1, r1, r2, r3⟩ := ro_copies (rc := rc) (a := 338) (b := 439) (by decide) R.F p0
  obtain ⟨R1, F1⟩ := rr_th (i := 0) R A (by decide) r3 r2
  obtain ⟨h2, s1, s2, s3, s4⟩ := rr_end_l (rc := rc) hs (kind := kind) A 12 0 h1 (sF σ) (bc_le _) R1 r2 A.W
  have N := fun d => rf_nextOf (rc := rc) r2 A.B.n kind (mm := s) (by omega) d
  refine ⟨h2, fun d => ?_, s2, F1.trans s3, s4⟩
  have := s1 d
  rw [Nat.zero_add] at this
  rw [je_185, if_pos R.is, R.g28, jk_bs, show (0 : Int32) = Int32.ofNat 0 from rfl, m_rows_q R.th (by decide) (by decide), jk_bs, jk_mos, R.g1, jk_bs, r1, jk_cV, N, jk_cI]
  exact this
theorem rf_weights (H : ro_at h b g) (B : jf_B g) (d : Nat) : ∀ (m k : Nat), k + m = 12 → jb_186 rc (d + 1) 4 [(0, .ref b), (1, .int (jk_sum g.1 k)), (2, .int (Int32.ofNat k))] [] h = some (some (.int (jk_sum g.1 12)), h)
  | 0, k, e => by
    obtain rfl : k = 12 := by omega
    rw [je_186_4, if_pos (by decide)]
  | m + 1, k, e => by
    have hk : k < 12 := by omega
    have i := rf_weights H B d m (k + 1) (by omega)
    rw [show jk_sum g.1 (k + 1) = jk_sum g.1 k + g.1 k from rfl] at i
    rw [je_186_4, if_neg (jk_n12 hk), ro_0 H, jk_bs, rf_has _ _ (by omega), jk_cI, jk_if0, jk_succ]
    by_cases c : bt g.2.2 k = true
    · rw [if_pos c, ro_w H hk, jk_bs]
      exact i
    · rw [if_neg c]
      rw [(B.abs hk (by simpa using c)).1] at i
      exact i
theorem rr_rest (R : RSt h σ) (A : AWt σ) (i w : Int32) : ∃ h', (∀ d, jx_C rc (d + 20) 187 [.ref 336, .int i, .int w] h = some (some (.int (op_rest σ i w).1), h')) ∧ RSt h' (op_rest σ i w).2 ∧ rF h h' := by
  unfold op_rest
  obtain ⟨e', e1, e2, e3⟩ := rr_error (rc := rc) R A (k := 1) (by decide) (K := 1) rfl
  have h6 := A.crew.1
  by_cases c0 : jp_crew (sC σ) i = true
  · rw [if_pos c0]
    obtain ⟨j, hj, rfl⟩ := (jp_crew_iff h6).mp c0
    rw [pn_6 (by omega)]
    have st : ∀ d, jx_C rc (d + 20) 187 [.ref 336, .int (Int32.ofNat j), .int w] h = _ := fun d => by
      rw [je_187, if_pos R.is, rr_isWorker R A, jk_cI, jk_if0, if_pos c0, rf_in, jk_cI, jk_if0, show (2 : Int64) = (2 : Int32).toInt64 from rfl, jp_bt_hi]
    by_cases c1 : w < 0
    · rw [if_pos c1]
      refine ⟨e', fun d => ?_, e2, e3⟩
      rw [st d, if_neg (by unfold jp_hi; rw [if_pos c1]; decide), e1, jk_cI]
    rw [if_neg c1]
    by_cases c2 : w ≤ 2
    · rw [if_pos c2]
      have c2' : ¬ 2 < w := fun z => by rw [Int32.lt_iff_toInt_lt] at z; rw [Int32.le_iff_toInt_le] at c2; omega
      have ch : jp_hi w 2 = true := by unfold jp_hi; rw [if_neg c1, if_neg c2']
      obtain ⟨h1, r1, R1, F1, G⟩ := rr_end (rc := rc) R A ((sC σ).2.1 j) (A.crew.2 j hj).2.1
      have W := jw_end_W (kind := (sC σ).2.1 j) (s := (sC σ).2.2.1 j) 12 (sF σ) A.W
      have st2 : ∀ d, jx_C rc (d + 20) 187 [.ref 336, .int (Int32.ofNat j), .int w] h = _ := fun d => by
        rw [st d, if_pos ch, R.g26, jk_bs, m_crew_0 R.crew h6 hj, jk_bs, jk_bs, m_crew_1 R.crew h6 hj, jk_bs, r1, jk_cI]
      by_cases w0 : w = 0
      · rw [if_pos w0]
        refine ⟨h1, fun d => ?_, R1, F1⟩
        rw [st2 d, if_pos w0]
      rw [if_neg w0]
      by_cases w1 : w = 1
      · rw [if_pos w1]
        refine ⟨h1, fun d => ?_, R1, F1⟩
        rw [st2 d, if_neg w0, if_pos w1, R1.g28, jk_bs, show (0 : Int32) = Int32.ofNat 0 from rfl, m_rows_q R1.th (by decide) (by decide), jk_bs, jk_mos, show Int32.ofNat 0 = (0 : Int32) from rfl, ro_0 G, jk_bs, rf_many, jk_cI]
      rw [if_neg w1]
      refine ⟨h1, fun d => ?_, R1, F1⟩
      have Q := rf_weights (rc := rc) G W.1 (d + 17) 12 0 (by omega)
      rw [st2 d, if_neg w0, if_neg w1, R1.g28, jk_bs, show (0 : Int32) = Int32.ofNat 0 from rfl, m_rows_q R1.th (by decide) (by decide), jk_bs, jk_mos, je_186]
      refine (congrArg (fun z => jx_cI z _) Q).trans ?_
      rw [jk_cI]
    · rw [if_neg c2]
      refine ⟨e', fun d => ?_, e2, e3⟩
      have c2' : 2 < w := by rw [Int32.lt_iff_toInt_lt]; rw [Int32.le_iff_toInt_le] at c2; omega
      rw [st d, if_neg (by unfold jp_hi; rw [if_neg c1, if_pos c2']; decide), e1, jk_cI]
  · rw [if_neg c0]
    refine ⟨e', fun d => ?_, e2, e3⟩
    rw [je_187, if_pos R.is, rr_isWorker R A, jk_cI, jk_if0, if_neg c0, e1, jk_cI]
end
