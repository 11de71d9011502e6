/-! plays(): the reference -/
section
variable {rc : Nat → Nat × (Nat → Int32)} {h h' : jxH} {σ : jSt} {P : Nat → Prop} {e : jSh} {g : jF}
theorem jq_mn_599 {v : Int32} (c6 : ¬ v = 600) : (jp_bt v.toInt64 0 599 = true → ¬ v < 0) ∧ (¬ jp_bt v.toInt64 0 599 = true → jq_mn v = none) := by
  have e : jp_bt v.toInt64 0 599 = jp_hi v 599 := by rw [show (599 : Int64) = (599 : Int32).toInt64 from rfl, jp_bt_hi]
  rw [e]
  unfold jp_hi
  by_cases c0 : v < 0
  · rw [if_pos c0]
    refine ⟨fun z => (by cases z), fun _ => ?_⟩
    unfold jq_mn
    rw [if_neg c6, if_pos c0]
  rw [if_neg c0]
  by_cases c1 : 599 < v
  · rw [if_pos c1]
    refine ⟨fun z => (by cases z), fun _ => ?_⟩
    unfold jq_mn
    rw [if_neg c6, if_neg c0]
    obtain ⟨n, hn, rfl⟩ : ∃ n, n < 2 ^ 31 ∧ v = Int32.ofNat n := ⟨_, jk_of_lt v, jk_of c0⟩
    rw [show (599 : Int32) = Int32.ofNat 599 from rfl, jk_lt (by decide) hn] at c1
    rw [show (600 : Int32) = Int32.ofNat 600 from rfl, jk_inj hn (by decide)] at c6
    have dd : n / 100 ≤ n := Nat.div_le_self n 100
    have d6 : 6 ≤ n / 100 := (Nat.le_div_iff_mul_le (by decide)).mpr (by omega)
    rw [show (100 : Int32) = Int32.ofNat 100 from rfl, jk_divN hn (by decide), if_neg]
    rintro (z | z | z)
    · rw [jk_0 (by omega)] at z; omega
    · rw [show (4 : Int32) = Int32.ofNat 4 from rfl, jk_inj (by omega) (by decide)] at z; omega
    · rw [show (5 : Int32) = Int32.ofNat 5 from rfl, jk_inj (by omega) (by decide)] at z; omega
  · rw [if_neg c1]
    exact ⟨fun _ => c0, fun z => absurd rfl z⟩
theorem rr_py_l {j : Nat} (hj : j < 4) (he : sE σ j = some e) (A : AWt σ) (w : Int32) : ∀ (m k : Nat) (g : jF) (h : jxH), k + m = 24 → RSt h σ → ro_at h 439 g → jf_W g → ∃ h', (∀ d, jb_202 rc (d + 8) 35 [(0, .ref 336), (1, .int (Int32.ofNat j)), (2, .int w), (3, .ref 439), (4, .int (Int32.ofNat k)), (5, .int 1)] [] h = some (some (.int (if w = 0 then Int32.ofNat (jq_py e m k g).1 else Int32.ofNat (bc (jq_py e m k g).2.2.2))), h')) ∧ RSt h' σ ∧ rF h h'
  | m, k, g, h, q, R, G, W => by
    have hn := (A.ss j e hj he).2
    have fin : ∀ d, (if w = 0 then some (some (.int (Int32.ofNat k)), h) else (jx_aI (jx_at h 439) 0 (0 : Int32)).bind fun v1 => jx_cI (jx_C rc (d + 8) 76 [.int v1] h) fun v3 h2 => some (some (.int v3), h2)) = some (some (.int (if w = 0 then Int32.ofNat k else Int32.ofNat (bc g.2.2))), h) := fun d => by
      by_cases w0 : w = 0
      · rw [if_pos w0, if_pos w0]
      · rw [if_neg w0, if_neg w0, ro_0 G, jk_bs, rf_many, jk_cI]
    have st : ∀ d, jb_202 rc (d + 8) 35 [(0, .ref 336), (1, .int (Int32.ofNat j)), (2, .int w), (3, .ref 439), (4, .int (Int32.ofNat k)), (5, .int 1)] [] h = _ := fun d => by
      rw [je_202_35b, R.g33, jk_bs, R.size hj, jk_bs, he, show e_size (some e) = e.2.1 from rfl]
    -- the loop goes out
    have out : ∀ d, jb_202 rc (d + 8) 35 [(0, .ref 336), (1, .int (Int32.ofNat j)), (2, .int w), (3, .ref 439), (4, .int (Int32.ofNat k)), (5, .int 0)] [] h = some (some (.int (if w = 0 then Int32.ofNat k else Int32.ofNat (bc g.2.2))), h) := fun d => by
      rw [je_202_35b, R.g33, jk_bs, R.size hj, jk_bs, he, show e_size (some e) = e.2.1 from rfl]
      split
      · exact fin d
      · rw [if_pos rfl]; exact fin d
    cases m with
    | zero =>
      refine ⟨h, fun d => ?_, R, Fr.rfl⟩
      rw [st d, if_pos (by rw [jk_le (by omega) (by omega)]; omega)]
      exact fin d
    | succ m =>
      unfold jq_py
      by_cases c1 : k < e.2.1
      · rw [if_pos c1]
        have st2 : ∀ d, jb_202 rc (d + 8) 35 [(0, .ref 336), (1, .int (Int32.ofNat j)), (2, .int w), (3, .ref 439), (4, .int (Int32.ofNat k)), (5, .int 1)] [] h = _ := fun d => by
          rw [st d, if_neg (by rw [jk_le (by omega) (by omega)]; omega), if_neg (by decide), R.g34, jk_bs, R.num A hj he c1, jk_bs]
        -- from row 89 on
        have r89 : ∀ (mv : jM), mv.2.2 = (0, 0, 0) → ∃ h', (∀ d, jb_202 rc (d + 8) 89 [(0, .ref 336), (1, .int (Int32.ofNat j)), (2, .int w), (3, .ref 439), (4, .int (Int32.ofNat k)), (7, .int mv.1), (8, .int mv.2.1)] [] h = some (some (.int (if w = 0 then Int32.ofNat (if jf_ref g false mv = 0 then jq_py e m (k + 1) (jf_act g mv) else (k, g)).1 else Int32.ofNat (bc (if jf_ref g false mv = 0 then jq_py e m (k + 1) (jf_act g mv) else (k, g)).2.2.2))), h')) ∧ RSt h' σ ∧ rF h h' := fun mv hz => by
          obtain ⟨k1, p1, z1, z2, z3⟩ := mv
          cases hz
          have rf := fun d => rf_refused (rc := rc) G W.1.n (k1, p1, 0, 0, 0) d
          dsimp only at rf
          by_cases cr : jf_ref g false (k1, p1, 0, 0, 0) = 0
          · obtain ⟨h1, t1, t2, t3⟩ := rf_does (rc := rc) G W.1 (k1, p1, 0, 0, 0) cr
            dsimp only at t1
            obtain ⟨R1, F1⟩ := rr_th (i := 0) R A (by decide) t3 t2
            obtain ⟨h2, u1, u2, u3⟩ := rr_py_l hj he A w m (k + 1) _ h1 (by omega) R1 t2 (jf_W_act W cr)
            rw [if_pos cr]
            refine ⟨h2, fun d => ?_, u2, F1.trans u3⟩
            rw [je_202_89b, show d + 8 = (d + 2) + 6 from rfl, rf, jk_cI, if_pos cr, if_neg (by decide), t1, jk_cV, jk_succ]
            exact u1 d
          · rw [if_neg cr]
            refine ⟨h, fun d => ?_, R, Fr.rfl⟩
            rw [je_202_89b, show d + 8 = (d + 2) + 6 from rfl, rf, jk_cI, if_neg cr, if_pos rfl]
            exact out d
        by_cases c6 : e.2.2 k = 600
        · obtain ⟨h2, u1, u2, u3⟩ := r89 (6, 0, 0, 0, 0) rfl
          rw [show jq_mn (e.2.2 k) = some (6, 0, 0, 0, 0) by unfold jq_mn; rw [if_pos c6]]
          refine ⟨h2, fun d => ?_, u2, u3⟩
          rw [st2 d, if_pos c6, if_pos c6, je_202_77b, if_neg (by decide), if_neg (by decide), if_neg (by decide), if_pos rfl]
          exact u1 d
        · obtain ⟨b1, b2⟩ := jq_mn_599 c6
          by_cases cb : jp_bt (e.2.2 k).toInt64 0 599 = true
          · have v0 := b1 cb
            have st3 : ∀ d, jb_202 rc (d + 8) 35 [(0, .ref 336), (1, .int (Int32.ofNat j)), (2, .int w), (3, .ref 439), (4, .int (Int32.ofNat k)), (5, .int 1)] [] h = _ := fun d => by
              rw [st2 d, if_neg c6, rf_in, jk_cI, jk_if0, if_pos cb, if_neg (by decide), if_neg c6, if_neg (by decide), je_202_77b]
            by_cases cc : e.2.2 k / 100 = 0 ∨ e.2.2 k / 100 = 4 ∨ e.2.2 k / 100 = 5
            · obtain ⟨h2, u1, u2, u3⟩ := r89 (e.2.2 k / 100, e.2.2 k - e.2.2 k / 100 * 100, 0, 0, 0) rfl
              rw [show jq_mn (e.2.2 k) = some (e.2.2 k / 100, e.2.2 k - e.2.2 k / 100 * 100, 0, 0, 0) by unfold jq_mn; rw [if_neg c6, if_neg v0, if_pos cc]]
              refine ⟨h2, fun d => ?_, u2, u3⟩
              rw [st3 d]
              refine Eq.trans ?_ (u1 d)
              rcases cc with z | z | z
              · rw [if_pos z]
              · rw [if_neg (by rw [z]; decide), if_pos z]
              · rw [if_neg (by rw [z]; decide), if_neg (by rw [z]; decide), if_pos z]
            · rw [show jq_mn (e.2.2 k) = none by unfold jq_mn; rw [if_neg c6, if_neg v0, if_neg cc]]
              refine ⟨h, fun d => ?_, R, Fr.rfl⟩
              rw [st3 d, if_neg (fun z => cc (Or.inl z)), if_neg (fun z => cc (Or.inr (Or.inl z))), if_neg (fun z => cc (Or.inr (Or.inr z)))]
              rw [if_neg, if_pos rfl]
              · exact out d
              · intro z
                obtain ⟨n, hn', e'⟩ : ∃ n, n < 2 ^ 31 ∧ e.2.2 k = Int32.ofNat n := ⟨_, jk_of_lt _, jk_of v0⟩
                rw [e'] at z cb
                rw [show (599 : Int64) = (599 : Int32).toInt64 from rfl, jp_bt_hi, show (599 : Int32) = Int32.ofNat 599 from rfl, jp_hi_iff (by decide)] at cb
                obtain ⟨n', l, q'⟩ := cb
                rw [jk_inj hn' (by omega)] at q'
                have dd : n / 100 ≤ 5 := by
                  have := Nat.div_le_div_right (c := 100) (show n ≤ 599 by omega)
                  omega
                rw [show (100 : Int32) = Int32.ofNat 100 from rfl, jk_divN hn' (by decide), show (6 : Int32) = Int32.ofNat 6 from rfl, jk_inj (by omega) (by decide)] at z
                omega
          · rw [b2 cb]
            refine ⟨h, fun d => ?_, R, Fr.rfl⟩
            rw [st2 d, if_neg c6, rf_in, jk_cI, jk_if0, if_neg cb, if_neg c6, if_neg (by decide), je_202_77b, if_neg (by decide), if_neg (by decide), if_neg (by decide), if_neg (by decide), if_pos rfl]
            exact out d
      · rw [if_neg c1]
        refine ⟨h, fun d => ?_, R, Fr.rfl⟩
        rw [st d, if_pos (by rw [jk_le (by omega) (by omega)]; omega)]
        exact fin d
theorem rr_plays (R : RSt h σ) (A : AWt σ) (k w : Int32) : ∃ h', (∀ d, jx_C rc (d + 20) 202 [.ref 336, .int k, .int w] h = some (some (.int (op_plays σ k w).1), h')) ∧ RSt h' (op_plays σ k w).2 ∧ rF h h' := by
  unfold op_plays
  obtain ⟨e', e1, e2, e3⟩ := rr_error (rc := rc) R A (k := 1) (by decide) (K := 1) rfl
  by_cases c0 : jp_four k = true
  · rw [if_pos c0]
    obtain ⟨j, hj, rfl⟩ := jp_four_iff.mp c0
    rw [pn_4 hj]
    have st : ∀ d, jx_C rc (d + 20) 202 [.ref 336, .int (Int32.ofNat j), .int w] h = _ := fun d => by
      rw [je_202, if_pos R.is, rf_four, jk_cI, jk_if0, if_pos c0, rf_in, jk_cI, jk_if0, show (1 : Int64) = (1 : Int32).toInt64 from rfl, jp_bt_hi, jp_part_hi]
    by_cases cw : jp_part w = true
    · rw [if_pos cw]
      have st2 : ∀ d, jx_C rc (d + 20) 202 [.ref 336, .int (Int32.ofNat j), .int w] h = _ := fun d => by
        rw [st d, if_pos cw, R.g32, jk_bs, R.bits hj, jk_bs]
      cases he : sE σ j with
      | none =>
        obtain ⟨f', f1, f2, f3⟩ := rr_error (rc := rc) R A (k := 7) (by decide) (K := 7) rfl
        refine ⟨f', fun d => ?_, f2, f3⟩
        rw [st2 d, he, if_pos (show e_bits none = 0 from rfl), f1, jk_cI]
      | some e =>
        obtain ⟨-, -, -, -, -, -, -, -, -, -, -, -, -, -, -, -, a17⟩ := R.scr
        obtain ⟨f0, p0⟩ := a17 0 (by decide)
        obtain ⟨h1, r1, r2, r3⟩ := ro_copies (rc := rc) (a := 338) (b := 439) (by decide) R.F p0
        obtain ⟨R1, F1⟩ := rr_th (i := 0) R A (by decide) r3 r2
        obtain ⟨h2, s1, s2, s3⟩ := rr_py_l (rc := rc) hj he A w 24 0 (sF σ) h1 (by omega) R1 r2 A.W
        refine ⟨h2, fun d => ?_, s2, F1.trans s3⟩
        have nb := ss_b0 A hj he
        rw [st2 d, if_neg nb, R.g28, jk_bs, show (0 : Int32) = Int32.ofNat 0 from rfl, m_rows_q R.th (by decide) (by decide), jk_bs, jk_mos, R.g1, jk_bs, r1, jk_cV]
        exact s1 (d + 11)
    · rw [if_neg cw]
      refine ⟨e', fun d => ?_, e2, e3⟩
      rw [st d, if_neg cw, e1, jk_cI]
  · rw [if_neg c0]
    refine ⟨e', fun d => ?_, e2, e3⟩
    rw [je_202, if_pos R.is, rf_four, jk_cI, jk_if0, if_neg c0, e1, jk_cI]
end
