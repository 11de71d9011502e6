/-! weighAll(), both ways -/
/-- the first numbers come to the vertices: how many, what comes of it -/
def jq_wa (e : jSh) : Nat → Nat → jF → Nat × jF
  | 0, k, f => (k, f)
  | m + 1, k, f => if k < e.2.1 ∧ bt f.2.2 k = true ∧ jp_wt (e.2.2 k) = true then jq_wa e m (k + 1) (jf_setw f k (e.2.2 k)) else (k, f)
def op_weighAll (σ : jSt) (k : Int32) : Int32 × jSt := if jp_four k = true then (match sE σ (pn k) with
  | some e => (Int32.ofNat (jq_wa e 12 0 (sF σ)).1, hand σ (jq_wa e 12 0 (sF σ)).2)
  | none => er σ 7) else er σ 1
theorem jq_wa_W (e : jSh) : ∀ (m k : Nat) (f : jF), k + m = 12 → jf_W f → jf_W (jq_wa e m k f).2
  | 0, _, _, _, W => W
  | m + 1, k, f, q, W => by
    unfold jq_wa
    split
    · rename_i c
      exact jq_wa_W e m (k + 1) _ (by omega) (jf_W_setw W (by omega) c.2.1 c.2.2)
    · exact W
section
variable {rc : Nat → Nat × (Nat → Int32)} {h h' : jxH} {σ : jSt} {P : Nat → Prop} {e : jSh} {b : Nat}
theorem cc_wa_l {h0 : jxH} (C : CSt h0 σ) (A : AWt σ) (hb : 451 ≤ b) (hn : e.2.1 ≤ 24) (E : ea_at h0 b e) : ∀ (m k : Nat) (g : jF) (h : jxH), k + m = 12 → Fr (jI 2 3) h0 h → fo_at h 2 g → ∃ h', (∀ d, jb_46 rc (d + 3) 22 [(0, .ref 0), (2, .ref b), (3, .int (Int32.ofNat k))] [] h = some (some (.int (Int32.ofNat (jq_wa e m k g).1)), h')) ∧ CSt h' (hand σ (jq_wa e m k g).2) ∧ cF h0 h'
  | 0, k, g, h, q, F, G => by
    obtain ⟨h1, r1, r2, r3, -, -⟩ := cc_hand (rc := rc) C A F (fun x q => jI23 q) G (c_scr2 F (fun x q => ⟨q.1, by have := q.2; omega⟩) C)
    have g4 : jx_gR (jx_at h 0) 11 4 = some 12 := by rw [F.2.2 0 (fun z => by have := z.1; omega)]; exact C.g4
    obtain rfl : k = 12 := by omega
    refine ⟨h1, fun d => ?_, r2, r3⟩
    rw [je_46_22, if_pos (by decide), g4, jk_bs, r1, jk_cV]
    rfl
  | m + 1, k, g, h, q, F, G => by
    obtain ⟨h1, r1, r2, r3, -, -⟩ := cc_hand (rc := rc) C A F (fun x q => jI23 q) G (c_scr2 F (fun x q => ⟨q.1, by have := q.2; omega⟩) C)
    have o : jx_at h 0 = jx_at h0 0 := F.2.2 0 (fun z => by have := z.1; omega)
    have g4 : jx_gR (jx_at h 0) 11 4 = some 12 := by rw [o]; exact C.g4
    have g1 : jx_gR (jx_at h 0) 11 1 = some 2 := by rw [o]; exact C.g1
    have E1 : ea_at h b e := ea_fr F (fun x a b z => by have := z.2; omega) E
    have st : ∀ d, jb_46 rc (d + 3) 22 [(0, .ref 0), (2, .ref b), (3, .int (Int32.ofNat k))] [] h = _ := fun d => by
      rw [je_46_22, if_neg (jk_n12 (by omega)), ea_has E1, jk_cI, jk_if0]
    unfold jq_wa
    by_cases c1 : k < e.2.1
    · have c1' := (jq_shas_iff (e := e) hn).mpr ⟨k, c1, rfl⟩
      have st2 : ∀ d, jb_46 rc (d + 3) 22 [(0, .ref 0), (2, .ref b), (3, .int (Int32.ofNat k))] [] h = _ := fun d => by
        rw [st d, if_pos c1', g1, jk_bs, fo_has G, jk_cI, jk_if0, jF_has_of (show k < 12 by omega)]
      by_cases c2 : bt g.2.2 k = true
      · have st3 : ∀ d, jb_46 rc (d + 3) 22 [(0, .ref 0), (2, .ref b), (3, .int (Int32.ofNat k))] [] h = _ := fun d => by
          rw [st2 d, if_pos c2, ea_read E1 hn c1, jk_cI, cl_isWeight, jk_cI, jk_if0]
        by_cases c3 : jp_wt (e.2.2 k) = true
        · rw [if_pos ⟨c1, c2, c3⟩]
          obtain ⟨h2, s1, s2, s3⟩ := fo_setWeight (rc := rc) G (show k < 12 by omega) c2 (e.2.2 k)
          obtain ⟨h3, t1, t2, t3⟩ := cc_wa_l C A hb hn E m (k + 1) _ h2 (by omega) (F.trans s3) s2
          refine ⟨h3, fun d => ?_, t2, t3⟩
          rw [st3 d, if_pos c3, g1, jk_bs, ea_read E1 hn c1, jk_cI, s1, jk_cV, jk_succ]
          exact t1 d
        · rw [if_neg (fun z => c3 z.2.2)]
          refine ⟨h1, fun d => ?_, r2, r3⟩
          rw [st3 d, if_neg c3, g4, jk_bs, r1, jk_cV]
      · rw [if_neg (fun z => c2 z.2.1)]
        refine ⟨h1, fun d => ?_, r2, r3⟩
        rw [st2 d, if_neg c2, g4, jk_bs, r1, jk_cV]
    · rw [if_neg (fun z => c1 z.1)]
      refine ⟨h1, fun d => ?_, r2, r3⟩
      rw [st d, if_neg (fun z => by
        obtain ⟨k', l, e'⟩ := (jq_shas_iff hn).mp z
        rw [jk_inj (by omega) (by omega)] at e'; omega), g4, jk_bs, r1, jk_cV]
theorem cc_weighAll (C : CSt h σ) (A : AWt σ) (k : Int32) : ∃ h', (∀ d, jx_C rc (d + 20) 46 [.ref 0, .int k] h = some (some (.int (op_weighAll σ k).1), h')) ∧ CSt h' (op_weighAll σ k).2 ∧ cF h h' := by
  unfold op_weighAll
  obtain ⟨e', e1, e2, e3⟩ := cc_refuse (rc := rc) C A (k := 1) (by decide) (by decide) (K := 1) rfl
  by_cases c0 : jp_four k = true
  · rw [if_pos c0]
    obtain ⟨j, hj, rfl⟩ := jp_four_iff.mp c0
    rw [pn_4 hj]
    obtain ⟨n1, n2, n3⟩ := four_ok hj
    have st : ∀ d, jx_C rc (d + 20) 46 [.ref 0, .int (Int32.ofNat j)] h = _ := fun d => by
      rw [je_46, if_pos C.is, if_neg n1, if_pos n2, C.g12, jk_bs]
    rcases ed_get C.dyn hj with ⟨b1, b2⟩ | ⟨e, b, b1, b2, b3, b4, b5⟩
    · obtain ⟨f', f1, f2, f3⟩ := cc_refuse (rc := rc) C A (k := 7) (by decide) (by decide) (K := 7) rfl
      rw [show sE σ j = none from b1]
      refine ⟨f', fun d => ?_, f2, f3⟩
      rw [st d, b2, jk_bs, jk_mon, f1, jk_cI]
    · rw [show sE σ j = some e from b1]
      obtain ⟨h3, t1, t2, t3⟩ := cc_wa_l (rc := rc) C A b3 (A.ss j e hj b1).2 b4 12 0 (sF σ) h (by omega) Fr.rfl C.F
      refine ⟨h3, fun d => ?_, t2, t3⟩
      rw [st d, b2, jk_bs, jk_mos]
      exact t1 (d + 16)
  · rw [if_neg c0]
    refine ⟨e', fun d => ?_, e2, e3⟩
    rw [je_46, if_pos C.is]
    rcases four_no c0 with z | ⟨z1, z2, z3⟩
    · rw [if_pos z, e1, jk_cI]
    · rw [if_neg z1, if_neg z2, e1, jk_cI]
theorem aa_weighAll (A : AWt σ) (k : Int32) : AWt (op_weighAll σ k).2 := by
  unfold op_weighAll
  split
  · split
    · exact aa_hand A (jq_wa_W _ 12 0 _ (by omega) A.W)
    · exact aa_er A
  · exact aa_er A
/-- notThere() -/
theorem rr_notThere (R : RSt h σ) (A : AWt σ) (k : Int32) (d : Nat) : jx_C rc (d + 3) 199 [.ref 336, .int k] h = some (some (.int (if jp_four k = true then (match sE σ (pn k) with
  | some _ => 0
  | none => 7) else 1)), h) := by
  rw [je_199, if_pos R.is, rf_four, jk_cI, jk_if0]
  by_cases c0 : jp_four k = true
  · rw [if_pos c0, if_pos c0]
    obtain ⟨j, hj, rfl⟩ := jp_four_iff.mp c0
    rw [pn_4 hj, R.g32, jk_bs, R.bits hj, jk_bs]
    cases he : sE σ j with
    | none => rw [if_pos (show e_bits none = 0 from rfl)]
    | some e =>
      have b0 := ss_b0 A hj he
      rw [he] at b0
      rw [if_neg b0]
  · rw [if_neg c0, if_neg c0]
theorem rr_wa_l {j : Nat} (hj : j < 4) (he : sE σ j = some e) (A : AWt σ) : ∀ (m k : Nat) (g : jF) (h : jxH), k + m = 12 → RSt h (hand σ g) → jf_W g → ∃ h', (∀ d, jb_200 rc (d + 3) 14 [(0, .ref 336), (1, .int (Int32.ofNat j)), (3, .int (Int32.ofNat k))] [] h = some (some (.int (Int32.ofNat (jq_wa e m k g).1)), h')) ∧ RSt h' (hand σ (jq_wa e m k g).2) ∧ rF h h'
  | m, k, g, h, q, R, W => by
    have hn := (A.ss j e hj he).2
    have st : ∀ d, jb_200 rc (d + 3) 14 [(0, .ref 336), (1, .int (Int32.ofNat j)), (3, .int (Int32.ofNat k))] [] h = _ := fun d => by
      rw [je_200_14, R.g33, jk_bs, R.size hj, jk_bs, show sE (hand σ g) j = some e from he, show e_size (some e) = e.2.1 from rfl]
    cases m with
    | zero =>
      obtain rfl : k = 12 := by omega
      refine ⟨h, fun d => ?_, R, Fr.rfl⟩
      rw [st d]
      split
      · rfl
      · rw [rr_isVertex R, jk_cI, jk_if0, if_neg (fun z => by
          obtain ⟨k', l, e', -⟩ := jF_has_iff.mp z
          rw [jk_inj (by decide) (by omega)] at e'; omega)]
        rfl
    | succ m =>
      unfold jq_wa
      by_cases c1 : k < e.2.1
      · have st2 : ∀ d, jb_200 rc (d + 3) 14 [(0, .ref 336), (1, .int (Int32.ofNat j)), (3, .int (Int32.ofNat k))] [] h = _ := fun d => by
          rw [st d, if_neg (by rw [jk_le (by omega) (by omega)]; omega), rr_isVertex R, jk_cI, jk_if0, jF_has_of (show k < 12 by omega), show sF (hand σ g) = g from rfl]
        by_cases c2 : bt g.2.2 k = true
        · have A1 : AWt (hand σ g) := aa_hand A W
          have st3 : ∀ d, jb_200 rc (d + 3) 14 [(0, .ref 336), (1, .int (Int32.ofNat j)), (3, .int (Int32.ofNat k))] [] h = _ := fun d => by
            rw [st2 d, if_pos c2, R.g34, jk_bs, R.num A1 hj he c1, jk_bs, rf_isWeight, jk_cI, jk_if0]
          by_cases c3 : jp_wt (e.2.2 k) = true
          · rw [if_pos ⟨c1, c2, c3⟩]
            obtain ⟨E, s1, s2⟩ := ro_sw R.F (show k < 12 by omega) (e.2.2 k)
            have R1 := rr_F (g' := jf_setw g k (e.2.2 k)) R Fr.one s2
            obtain ⟨h3, t1, t2, t3⟩ := rr_wa_l hj he A m (k + 1) _ _ (by omega) R1 (jf_W_setw W (by omega) c2 c3)
            refine ⟨h3, fun d => ?_, t2, (rF.one (by decide) (by decide) Fr.one).trans t3⟩
            rw [st3 d, if_pos c3, R.g1, jk_bs, R.g34, jk_bs, R.num A1 hj he c1, jk_bs, s1, jk_bs, jk_succ]
            exact t1 d
          · rw [if_neg (fun z => c3 z.2.2)]
            refine ⟨h, fun d => ?_, R, Fr.rfl⟩
            rw [st3 d, if_neg c3]
        · rw [if_neg (fun z => c2 z.2.1)]
          refine ⟨h, fun d => ?_, R, Fr.rfl⟩
          rw [st2 d, if_neg c2]
      · rw [if_neg (fun z => c1 z.1)]
        refine ⟨h, fun d => ?_, R, Fr.rfl⟩
        rw [st d, if_pos (by rw [jk_le (by omega) (by omega)]; omega)]
theorem rr_weighAll (R : RSt h σ) (A : AWt σ) (k : Int32) : ∃ h', (∀ d, jx_C rc (d + 20) 200 [.ref 336, .int k] h = some (some (.int (op_weighAll σ k).1), h')) ∧ RSt h' (op_weighAll σ k).2 ∧ rF h h' := by
  unfold op_weighAll
  have st : ∀ d, jx_C rc (d + 20) 200 [.ref 336, .int k] h = _ := fun d => by
    rw [je_200, if_pos R.is, rr_notThere R A, jk_cI]
  by_cases c0 : jp_four k = true
  · simp only [if_pos c0] at st ⊢
    obtain ⟨j, hj, rfl⟩ := jp_four_iff.mp c0
    rw [pn_4 hj] at *
    cases he : sE σ j with
    | none =>
      obtain ⟨f', f1, f2, f3⟩ := rr_error (rc := rc) R A (k := 7) (by decide) (K := 7) rfl
      refine ⟨f', fun d => ?_, f2, f3⟩
      rw [st d, he]
      dsimp only
      rw [if_neg (by decide), f1, jk_cI]
    | some e =>
      obtain ⟨h1, q1, q2, q3⟩ := rr_byHand (rc := rc) R A
      obtain ⟨h3, t1, t2, t3⟩ := rr_wa_l (rc := rc) hj he A 12 0 (sF σ) h1 (by omega) q2 A.W
      refine ⟨h3, fun d => ?_, t2, q3.trans t3⟩
      rw [st d, he]
      dsimp only
      rw [if_pos (by decide), q1, jk_cV]
      exact t1 (d + 16)
  · simp only [if_neg c0] at st ⊢
    obtain ⟨e', e1, e2, e3⟩ := rr_error (rc := rc) R A (k := 1) (by decide) (K := 1) rfl
    refine ⟨e', fun d => ?_, e2, e3⟩
    rw [st d, if_neg (by decide), e1, jk_cI]
end
