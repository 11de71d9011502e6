/-! plant(): the reference -/
section
variable {rc : Nat → Nat × (Nat → Int32)} {h h' : jxH} {σ : jSt} {P : Nat → Prop}
theorem rr_pl_1 {x y : Nat} (hx : x ≤ 999) (hy : 0 < y) (hyx : y < x) (d : Nat) : ∀ (m k : Nat), k + m = chM x y → (∀ i, k ≤ i → i < chM x y → chZ x y i ≤ 30) → jb_153 rc (d + 1) 40 [(0, .ref 336), (1, .int (Int32.ofNat x)), (2, .int (Int32.ofNat y)), (3, .int (Int32.ofNat (chM x y))), (4, .int (Int32.ofNat k))] [] h = jb_153 rc (d + 1) 40 [(0, .ref 336), (1, .int (Int32.ofNat x)), (2, .int (Int32.ofNat y)), (3, .int (Int32.ofNat (chM x y))), (4, .int (Int32.ofNat (chM x y)))] [] h
  | 0, k, e, _ => by rw [show k = chM x y by omega]
  | m + 1, k, e, H => by
    obtain ⟨a1, a2, a3, a4⟩ := ch_all hx hy hyx
    have l := (a4 k (by omega)).2.2
    rw [je_153_40, if_neg (by rw [jk_le (by omega) (by omega)]; omega), (rf_chZ hx hy hyx d).1 k (by omega), jk_cI, if_pos (by rw [show (30 : Int32) = Int32.ofNat 30 from rfl, jk_le (by omega) (by decide)]; exact H k (by omega) (by omega)), jk_succ]
    exact rr_pl_1 hx hy hyx d m (k + 1) (by omega) (fun i h1 h2 => H i (by omega) h2)
theorem rr_pl_2 {x y : Nat} (hx : x ≤ 999) (hy : 0 < y) (hyx : y < x) {r : Int32} (E : ∀ d, jx_C rc (d + 1) 73 [.ref 336, .int 5] h = some (some (.int r), h')) (d : Nat) : ∀ (m k : Nat), k + m = chM x y → (∃ i, k ≤ i ∧ i < chM x y ∧ ¬ chZ x y i ≤ 30) → jb_153 rc (d + 1) 40 [(0, .ref 336), (1, .int (Int32.ofNat x)), (2, .int (Int32.ofNat y)), (3, .int (Int32.ofNat (chM x y))), (4, .int (Int32.ofNat k))] [] h = some (some (.int r), h')
  | 0, k, e, H => by obtain ⟨i, h1, h2, h3⟩ := H; omega
  | m + 1, k, e, H => by
    obtain ⟨a1, a2, a3, a4⟩ := ch_all hx hy hyx
    have l := (a4 k (by omega)).2.2
    have le : (Int32.ofNat (chZ x y k) ≤ 30) ↔ chZ x y k ≤ 30 := by rw [show (30 : Int32) = Int32.ofNat 30 from rfl, jk_le (by omega) (by decide)]
    rw [je_153_40, if_neg (by rw [jk_le (by omega) (by omega)]; omega), (rf_chZ hx hy hyx d).1 k (by omega), jk_cI]
    by_cases q : chZ x y k ≤ 30
    · rw [if_pos (le.mpr q), jk_succ]
      refine rr_pl_2 hx hy hyx E d m (k + 1) (by omega) ?_
      obtain ⟨i, h1, h2, h3⟩ := H
      refine ⟨i, ?_, h2, h3⟩
      rcases Nat.lt_or_ge k i with z | z
      · exact z
      · exact absurd (show i = k by omega) (fun w => h3 (w ▸ q))
    · rw [if_neg (fun z => q (le.mp z)), E, jk_cI]
theorem rr_pl_3 {x y : Nat} (hx : x ≤ 999) (hy : 0 < y) (hyx : y < x) (hz : ∀ i, i < chM x y → chZ x y i ≤ 30) (r : Int32) : ∀ (m k l : Nat) (g : jF) (h : jxH), k + m = chM x y → l < 12 → bt g.2.2 l = true → bc g.2.2 + m ≤ 12 → jf_W g → RSt h (hand σ g) → ∃ h', (∀ d, jb_153 rc (d + 3) 69 [(0, .ref 336), (1, .int (Int32.ofNat x)), (2, .int (Int32.ofNat y)), (3, .int (Int32.ofNat (chM x y))), (4, .int r), (5, .int (Int32.ofNat l)), (6, .int (Int32.ofNat k))] [] h = some (some (.int r), h')) ∧ RSt h' (hand σ (jq_pl (jq_wz x y) m k l g)) ∧ rF h h'
  | 0, k, l, g, h, e, hl, sl, hb, W, R => by
    obtain ⟨a1, a2, a3, a4⟩ := ch_all hx hy hyx
    refine ⟨h, fun d => ?_, R, Fr.rfl⟩
    rw [je_153_69, if_pos (by rw [jk_le (by omega) (by omega)]; omega)]
  | m + 1, k, l, g, h, e, hl, sl, hb, W, R => by
    obtain ⟨a1, a2, a3, a4⟩ := ch_all hx hy hyx
    obtain ⟨W1, s1, b1, l1, hc⟩ := jf_W_line W hl sl (by omega) (show jp_wt (jq_wz x y k) = true by unfold jq_wz; rw [jp_wt_z (a4 k (by omega)).2.2]; exact decide_eq_true (hz k (by omega)))
    obtain ⟨k1, k2, -⟩ := lo_not hc
    obtain ⟨h1, t1, t2, t3⟩ := rf_comes (rc := rc) R.F hc (W.1.abs k1 k2).2 (jq_wz x y k)
    have R1 := rr_F R t3 t2
    obtain ⟨h2, u1, u2, u3⟩ := rf_ties (rc := rc) t2 hl l1
    have R2 := rr_F R1 u3 u2
    obtain ⟨h3, v1, v2, v3⟩ := rr_pl_3 hx hy hyx hz r m (k + 1) (jf_free g) _ h2 (by omega) l1 s1 (by omega) W1 R2
    refine ⟨h3, fun d => ?_, v2, ((rF.one (by decide) (by decide) t3).trans (rF.one (by decide) (by decide) u3)).trans v3⟩
    have t1' := t1 d
    unfold jq_wz at t1'
    rw [je_153_69, if_neg (by rw [jk_le (by omega) (by omega)]; omega), R.g1, jk_bs, (rf_chZ hx hy hyx (d + 2)).1 k (by omega), jk_cI, t1', jk_cI, if_neg (jk_nn (by omega)), R1.g1, jk_bs, u1, jk_cV, jk_succ]
    exact v1 d
theorem rr_plant (R : RSt h σ) (A : AWt σ) (a b : Int32) : ∃ h', (∀ d, jx_C rc (d + 20) 153 [.ref 336, .int a, .int b] h = some (some (.int (op_plant σ a b).1), h')) ∧ RSt h' (op_plant σ a b).2 ∧ rF h h' := by
  unfold op_plant
  obtain ⟨e', e1, e2, e3⟩ := rr_error (rc := rc) R A (k := 1) (by decide) (K := 1) rfl
  by_cases c0 : jp_chain a b = true
  · rw [if_pos c0]
    obtain ⟨x, y, rfl, rfl, hx, hy, hyx⟩ := jp_chain_iff.mp c0
    rw [show pn (Int32.ofNat x) = x from jk_cl (by omega), show pn (Int32.ofNat y) = y from jk_cl (by omega)]
    obtain ⟨a1, a2, a3, a4⟩ := ch_all hx hy hyx
    have G := fun d => rf_gcd (rc := rc) (h := h) d (ab_32 (a := x) (by omega)).2 (ab_32 (a := y) (by omega)).2
    rw [(ab_32 (a := x) (by omega)).1, (ab_32 (a := y) (by omega)).1] at G
    have g1 := (gcd_1 (a := x) (b := y) (by omega) (by omega)).2
    by_cases cg : Nat.gcd x y = 1
    · rw [if_pos cg]
      have b12 := bc_le (sF σ).2.2
      have st : ∀ d, jx_C rc (d + 20) 153 [.ref 336, .int (Int32.ofNat x), .int (Int32.ofNat y)] h = _ := fun d => by
        rw [je_153, if_pos R.is, rf_chainQ, jk_cI, jk_if0, if_pos c0, G, jk_cL, if_pos (g1.mp cg), (rf_chZ hx hy hyx (d + 18)).2, jk_cI, R.g1, jk_bs, ro_0 R.F, jk_bs, rf_many, jk_cI, jk_add2, show (12 : Int32) = Int32.ofNat 12 from rfl]
      by_cases cm : chM x y + bc (sF σ).2.2 ≤ 12
      · rw [if_pos cm]
        have st2 := fun d => (st d).trans (if_pos (by rw [jk_le (by omega) (by omega)]; omega))
        by_cases cz : ∀ i, i < chM x y → chZ x y i ≤ 30
        · rw [if_pos cz]
          obtain ⟨c, hc⟩ := bc_free (x := (sF σ).2.2) (by omega)
          obtain ⟨c1, c2, -⟩ := lo_not hc
          have hw : jp_wt (jq_wz x y 0) = true := by unfold jq_wz; rw [jp_wt_z (a4 0 (by omega)).2.2]; exact decide_eq_true (cz 0 (by omega))
          obtain ⟨h0, q1, q2, q3⟩ := rr_byHand (rc := rc) R A
          obtain ⟨h1, t1, t2, t3⟩ := rf_comes (rc := rc) q2.F hc (A.B.abs c1 c2).2 (jq_wz x y 0)
          have R1 := rr_F q2 t3 t2
          obtain ⟨h3, v1, v2, v3⟩ := rr_pl_3 (rc := rc) (σ := σ) hx hy hyx cz (Int32.ofNat c) (chM x y - 1) 1 c _ h1 (by omega) c1 (show bt ((sF σ).2.2 ||| jk_bit c) c = true by rw [bt_set _ c1 c1]; simp) (by rw [show bc (jf_grow (sF σ) c (jq_wz x y 0)).2.2 = bc (sF σ).2.2 + 1 from bc_set_eq c1 c2]; omega) (jf_W_grow A.W hc hw) R1
          refine ⟨h3, fun d => ?_, ?_, (q3.trans (rF.one (by decide) (by decide) t3)).trans v3⟩
          · refine (st2 d).trans ?_
            have p1 := rr_pl_1 (rc := rc) (h := h) hx hy hyx (d + 18) (chM x y) 0 (by omega) (fun i _ q => cz i q)
            refine p1.trans ?_
            have t1' := t1 (d + 16)
            unfold jq_wz at t1'
            have z0 : (sF (hand σ (sF σ))).2.2 = (sF σ).2.2 := rfl
            rw [je_153_40, if_pos (by rw [jk_le (by omega) (by omega)]; omega), q1, jk_cV, q2.g1, jk_bs, ro_0 q2.F, jk_bs, z0, rf_lowest (rc := rc) _ hc, jk_cI, show (0 : Int32) = Int32.ofNat 0 from rfl, je_153_69, if_neg (by rw [jk_le (by omega) (by omega)]; omega), q2.g1, jk_bs, (rf_chZ hx hy hyx (d + 18)).1 0 (by omega), jk_cI, t1', jk_cI, if_pos (by decide), jf_free_of hc]
            exact v1 (d + 16)
          · unfold jq_plant
            rw [jf_free_of hc]
            exact v2
        · rw [if_neg cz]
          obtain ⟨f', f1, f2, f3⟩ := rr_error (rc := rc) R A (k := 5) (by decide) (K := 5) rfl
          refine ⟨f', fun d => (st2 d).trans ?_, f2, f3⟩
          refine rr_pl_2 (rc := rc) hx hy hyx f1 (d + 18) (chM x y) 0 (by omega) ?_
          refine Classical.byContradiction fun q => cz fun i hi => Classical.byContradiction fun r => q ⟨i, by omega, hi, r⟩
      · rw [if_neg cm]
        obtain ⟨f', f1, f2, f3⟩ := rr_error (rc := rc) R A (k := 4) (by decide) (K := 4) rfl
        refine ⟨f', fun d => ?_, f2, f3⟩
        rw [st d, if_neg (by rw [jk_le (by omega) (by omega)]; omega), f1, jk_cI]
    · rw [if_neg cg]
      obtain ⟨f', f1, f2, f3⟩ := rr_error (rc := rc) R A (k := 3) (by decide) (K := 3) rfl
      refine ⟨f', fun d => ?_, f2, f3⟩
      rw [je_153, if_pos R.is, rf_chainQ, jk_cI, jk_if0, if_pos c0, G, jk_cL, if_neg (fun z => cg (g1.mpr z)), f1, jk_cI]
  · rw [if_neg c0]
    refine ⟨e', fun d => ?_, e2, e3⟩
    rw [je_153, if_pos R.is, rf_chainQ, jk_cI, jk_if0, if_neg c0, e1, jk_cI]
end
