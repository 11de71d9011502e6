/-! The class: move, undo, redo, trail, factor -/
section
variable {rc : Nat → Nat × (Nat → Int32)} {h : jxH} {σ : jSt}
/-- the step at 8 alone has written -/
theorem cc_step {h' : jxH} (C : CSt h σ) (A : AWt σ) (F : Fr (fun x => x = 8) h h') (K : ∃ m sg, st_at h' 8 m sg) : CSt h' σ ∧ cF h h' := by
  refine ⟨CS_scr A.tr.2.1 C F (fun x q => Or.inl (by omega)) ?_, cF.of F (fun x q => by omega)⟩
  obtain ⟨⟨f, g⟩, ⟨-, f2, g2⟩, w, r, p, t, e⟩ := C.scr
  exact ⟨⟨f, fo_fr F (fun x a b => by omega) g⟩, ⟨K, f2, fo_fr F (fun x a b => by omega) g2⟩, wk_fr F (fun x a b => by omega) w, rk_fr F (fun x a b => by omega) r, sp_fr F (fun x a b => by omega) p, tx_fr F (fun x a b => by omega) t, se_fr F (fun x a b => by omega) e⟩
theorem jk_40 {n : Nat} (hn : n ≤ 40) : (Int32.ofNat n < (40 : Int32)) ↔ ¬ 40 ≤ n := by
  rw [show (40 : Int32) = Int32.ofNat 40 from rfl, jk_lt (by omega) (by decide)]; omega
theorem ref_n_pos {f : jF} {b : Bool} {m : jM} (h : ¬ jf_ref f b m = 0) : 1 ≤ ref_n f b m ∧ ref_n f b m ≤ 7 := by
  obtain ⟨e, l⟩ := ref_n_eq f b m
  refine ⟨Nat.pos_of_ne_zero fun q => h ?_, by omega⟩
  rw [e, q]; rfl
theorem cc_move (hr : jk_rom rc) (C : CSt h σ) (A : AWt σ) (k p q v s : Int32) : ∃ h', (∀ d, jx_C rc (d + 20) 8 [.ref 0, .int k, .int p, .int q, .int v, .int s] h = some (some (.int (op_move σ k p q v s).1), h')) ∧ CSt h' (op_move σ k p q v s).2 ∧ cF h h' := by
  obtain ⟨-, ⟨⟨m0, sg0, s0⟩, -⟩, -⟩ := C.scr
  obtain ⟨h1, r1, r2, r3⟩ := st_mean (rc := rc) hr s0 k p q v s
  obtain ⟨C1, F1⟩ := cc_step C A r3 ⟨_, _, r2⟩
  have n40 := Nat.le_trans A.tr.1 A.tr.2.1
  have R := fun b d => st_refusal (rc := rc) hr r2 C1.F A.B.n A.B.s b d
  have Rn : ∀ b, jf_ref (sF σ) b (jm_norm (k, p, q, v, s)) = jf_ref (sF σ) b (k, p, q, v, s) := fun b => jf_ref_norm _ b _
  unfold op_move
  by_cases c0 : jf_ref (sF σ) (decide (40 ≤ σ.2.1.1)) (k, p, q, v, s) = 0
  · rw [if_pos c0]
    have c40 : ¬ 40 ≤ σ.2.1.1 := fun z => by
      rw [decide_eq_true z, jf_ref_full] at c0
      unfold ref_g at c0
      split at c0
      · exact absurd c0 (by decide)
      · rename_i w; exact w (Or.inl c0)
    rw [decide_eq_false c40] at c0
    have c0n : jf_ref (sF σ) false (jm_norm (k, p, q, v, s)) = 0 := by rw [Rn]; exact c0
    obtain ⟨h2, s1, s2, s3, s4, s5⟩ := cc_perform hr C1 A r2 (jm_norm_idem _) c0n (by omega)
    have ea : jf_act (sF σ) (jm_norm (k, p, q, v, s)) = jf_act (sF σ) (k, p, q, v, s) := (jf_act_norm _ _ (jf_ref_k c0)).1
    have W2 := jf_W_act A.W c0n
    have G2 : fo_at h2 2 (jf_act (sF σ) (jm_norm (k, p, q, v, s))) := by
      have := s2.F
      unfold sF tr_F tr_push at this
      dsimp only at this
      rw [if_neg (by omega)] at this
      exact this
    refine ⟨h2, fun d => ?_, s2, F1.trans0 ⟨r3.1, r3.2.1⟩ s3⟩
    have R0 := R false (d + 14)
    rw [Rn, c0] at R0
    rw [je_8, if_pos C.is, C.g3, jk_bs, r1, jk_cV, C1.g3, jk_bs, C1.g1, jk_bs, C1.g4, jk_bs, ct_g1 C1.tr, jk_bs, if_pos ((jk_40 n40).mpr c40)]
    refine (congrArg (fun z => jx_cI z _) R0).trans ?_
    rw [jk_cI, if_pos rfl, C1.g4, jk_bs, C1.g3, jk_bs, C1.g1, jk_bs, s1, jk_cV, s2.g1, jk_bs, fo_size G2 W2.1.s, jk_cI, ea]
  · rw [if_neg c0]
    obtain ⟨e', e1, e2, e3⟩ := cc_refuse (rc := rc) C1 A (ref_n_pos c0).1 (ref_n_pos c0).2 (K := Int32.ofNat (ref_n (sF σ) (decide (40 ≤ σ.2.1.1)) (k, p, q, v, s))) rfl
    refine ⟨e', fun d => ?_, e2, F1.trans0 ⟨r3.1, r3.2.1⟩ e3⟩
    rw [je_8, if_pos C.is, C.g3, jk_bs, r1, jk_cV, C1.g3, jk_bs, C1.g1, jk_bs, C1.g4, jk_bs, ct_g1 C1.tr, jk_bs]
    by_cases c40 : 40 ≤ σ.2.1.1
    · rw [decide_eq_true c40] at c0 e1 ⊢
      have R0 := R true (d + 14)
      rw [Rn, (ref_n_eq (sF σ) true (k, p, q, v, s)).1] at R0
      rw [if_neg (fun z => (jk_40 n40).mp z c40)]
      refine (congrArg (fun z => jx_cI z _) R0).trans ?_
      rw [jk_cI, if_neg (fun z => c0 ((ref_n_eq (sF σ) true (k, p, q, v, s)).1.trans z)), e1, jk_cI]
    · rw [decide_eq_false c40] at c0 e1 ⊢
      have R0 := R false (d + 14)
      rw [Rn, (ref_n_eq (sF σ) false (k, p, q, v, s)).1] at R0
      rw [if_pos ((jk_40 n40).mpr c40)]
      refine (congrArg (fun z => jx_cI z _) R0).trans ?_
      rw [jk_cI, if_neg (fun z => c0 ((ref_n_eq (sF σ) false (k, p, q, v, s)).1.trans z)), e1, jk_cI]
theorem cc_undo (C : CSt h σ) (A : AWt σ) : ∃ h', (∀ d, jx_C rc (d + 20) 9 [.ref 0] h = some (some (.int (op_undo σ).1), h')) ∧ CSt h' (op_undo σ).2 ∧ cF h h' := by
  have n40 := Nat.le_trans A.tr.1 A.tr.2.1
  obtain ⟨o, ⟨Q, q1, q2⟩, s, k⟩ := C.tr
  unfold op_undo
  by_cases c0 : σ.2.1.1 = 0
  · rw [if_pos c0]
    obtain ⟨e', e1, e2, e3⟩ := cc_refuse (rc := rc) C A (k := 2) (by decide) (by decide) (K := 2) rfl
    refine ⟨e', fun d => ?_, e2, e3⟩
    rw [je_9, if_pos C.is, C.g4, jk_bs, C.g1, jk_bs, je_315, if_pos (ct_is C.tr), ct_g1 C.tr, jk_bs, c0, if_pos (by decide), if_pos jk_r0', jk_cI, if_pos rfl, e1, jk_cI]
  · rw [if_neg c0]
    obtain ⟨k1, k2⟩ := k (σ.2.1.1 - 1) (by have := A.tr.1; omega)
    generalize hd : σ.2.1.1 = n at *
    obtain ⟨i, rfl⟩ : ∃ i, n = i + 1 := ⟨n - 1, by omega⟩
    rw [show i + 1 - 1 = i by omega] at *
    rw [show 15 + 4 * i = 14 + 4 * i + 1 by omega] at k2
    obtain ⟨h1, r1, r2, r3⟩ := fo_follow (rc := rc) C.F k2 (by omega)
    have o1 : jx_at h1 12 = jxO 9 [.ref 13, .int (Int32.ofNat (i + 1)), .int (Int32.ofNat σ.2.1.2.1)] := by rw [r3.2.2 12 (fun q => by have := q.2; omega), o]
    have F2 : Fr (fun x => x = 12) h1 (jx_set h1 12 (jxO 9 [.ref 13, .int (Int32.ofNat i), .int (Int32.ofNat σ.2.1.2.1)])) := Fr.one
    have FA : Fr (fun x => (2 ≤ x ∧ x < 5) ∨ (12 ≤ x ∧ x < 174)) h (jx_set h1 12 (jxO 9 [.ref 13, .int (Int32.ofNat i), .int (Int32.ofNat σ.2.1.2.1)])) := (r3.mono fun x q => Or.inl ⟨q.1, by have := q.2; omega⟩).trans (F2.mono fun x q => by omega)
    have FB : Fr (fun x => (2 ≤ x ∧ x < 5) ∨ x = 12) h (jx_set h1 12 (jxO 9 [.ref 13, .int (Int32.ofNat i), .int (Int32.ofNat σ.2.1.2.1)])) := (r3.mono fun x q => Or.inl ⟨q.1, by have := q.2; omega⟩).trans (F2.mono fun x q => Or.inr q)
    obtain ⟨c1, c2⟩ := cc_trail (t' := tr_at σ.2.1 i) C FA (fo_fr F2 (fun x a b => by omega) r2) ⟨jk_at_self .., ⟨Q, (FB.2.2 13 (by omega)).trans q1, q2⟩, fun j hj => sk_fr FB (fun x a b => by omega) (s j hj), fun j hj => ⟨st_fr FB (by omega) (k j hj).1, fo_fr FB (fun x a b => by omega) (k j hj).2⟩⟩
    refine ⟨_, fun d => ?_, c1, c2⟩
    rw [je_9, if_pos C.is, C.g4, jk_bs, C.g1, jk_bs, je_315, if_pos (ct_is C.tr), ct_g1 C.tr, jk_bs, hd, if_neg (by rw [show (0 : Int32) = Int32.ofNat 0 from rfl, jk_le (by omega) (by decide)]; omega), jk_bs, jk_pred, ct_stepAt C.tr (by omega), jk_cRs, jk_mos, st_g6 k1, jk_bs, r1, jk_cV, o1, show jx_gI (jxO 9 [Value.ref 13, Value.int (Int32.ofNat (i + 1)), Value.int (Int32.ofNat σ.2.1.2.1)]) 9 1 = some (Int32.ofNat (i + 1)) from rfl, jk_bs, jk_pred, show jx_pF (jxO 9 [Value.ref 13, Value.int (Int32.ofNat (i + 1)), Value.int (Int32.ofNat σ.2.1.2.1)]) 9 1 (.int (Int32.ofNat i)) = some (jxO 9 [Value.ref 13, Value.int (Int32.ofNat i), Value.int (Int32.ofNat σ.2.1.2.1)]) from rfl, jk_bs, if_pos (show jx_bool (1 : Int32) = true by simp [jx_bool]), jk_cI, if_neg (by decide), c1.g4, jk_bs, ct_g1 c1.tr, jk_bs]
    rfl
theorem cc_redo (C : CSt h σ) (A : AWt σ) : ∃ h', (∀ d, jx_C rc (d + 20) 10 [.ref 0] h = some (some (.int (op_redo σ).1), h')) ∧ CSt h' (op_redo σ).2 ∧ cF h h' := by
  have n40 := Nat.le_trans A.tr.1 A.tr.2.1
  have k40 := A.tr.2.1
  obtain ⟨o, ⟨Q, q1, q2⟩, s, k⟩ := C.tr
  unfold op_redo
  by_cases c0 : σ.2.1.2.1 ≤ σ.2.1.1
  · rw [if_pos c0]
    obtain ⟨e', e1, e2, e3⟩ := cc_refuse (rc := rc) C A (k := 2) (by decide) (by decide) (K := 2) rfl
    refine ⟨e', fun d => ?_, e2, e3⟩
    rw [je_10, if_pos C.is, C.g4, jk_bs, C.g1, jk_bs, je_316, if_pos (ct_is C.tr), ct_g1 C.tr, jk_bs, ct_g2 C.tr, jk_bs, if_pos ((jk_le (by omega) (by omega)).mpr c0), if_pos jk_r0', jk_cI, if_pos rfl, e1, jk_cI]
  · rw [if_neg c0]
    obtain ⟨k1, k2⟩ := k σ.2.1.1 (by omega)
    obtain ⟨w1, w2, w3⟩ := A.tr.2.2.2 σ.2.1.1 (by omega)
    obtain ⟨h1, r1, r2, r3⟩ := st_act (rc := rc) k1 C.F A.B (by omega) w1
    have o1 : jx_at h1 12 = jxO 9 [.ref 13, .int (Int32.ofNat σ.2.1.1), .int (Int32.ofNat σ.2.1.2.1)] := by rw [r3.2.2 12 (fun q => by have := q.2; omega), o]
    have F2 : Fr (fun x => x = 12) h1 (jx_set h1 12 (jxO 9 [.ref 13, .int (Int32.ofNat (σ.2.1.1 + 1)), .int (Int32.ofNat σ.2.1.2.1)])) := Fr.one
    have FA : Fr (fun x => (2 ≤ x ∧ x < 5) ∨ (12 ≤ x ∧ x < 174)) h (jx_set h1 12 (jxO 9 [.ref 13, .int (Int32.ofNat (σ.2.1.1 + 1)), .int (Int32.ofNat σ.2.1.2.1)])) := (r3.mono fun x q => Or.inl ⟨q.1, by have := q.2; omega⟩).trans (F2.mono fun x q => by omega)
    have FB : Fr (fun x => (2 ≤ x ∧ x < 5) ∨ x = 12) h (jx_set h1 12 (jxO 9 [.ref 13, .int (Int32.ofNat (σ.2.1.1 + 1)), .int (Int32.ofNat σ.2.1.2.1)])) := (r3.mono fun x q => Or.inl ⟨q.1, by have := q.2; omega⟩).trans (F2.mono fun x q => Or.inr q)
    have G2 : fo_at h1 2 (tr_F (tr_at σ.2.1 (σ.2.1.1 + 1))) := by
      unfold tr_F tr_at
      dsimp only
      rw [w2]; exact r2
    obtain ⟨c1, c2⟩ := cc_trail (t' := tr_at σ.2.1 (σ.2.1.1 + 1)) C FA (fo_fr F2 (fun x a b => by omega) G2) ⟨jk_at_self .., ⟨Q, (FB.2.2 13 (by omega)).trans q1, q2⟩, fun j hj => sk_fr FB (fun x a b => by omega) (s j hj), fun j hj => by have : j < σ.2.1.2.1 := hj; exact ⟨st_fr FB (by omega) (k j hj).1, fo_fr FB (fun x a b => by omega) (k j hj).2⟩⟩
    refine ⟨_, fun d => ?_, c1, c2⟩
    rw [je_10, if_pos C.is, C.g4, jk_bs, C.g1, jk_bs, je_316, if_pos (ct_is C.tr), ct_g1 C.tr, jk_bs, ct_g2 C.tr, jk_bs, if_neg (fun z => c0 ((jk_le (by omega) (by omega)).mp z)), jk_bs, ct_stepAt C.tr (by omega), jk_cRs, jk_mos, r1, jk_cV, o1, show jx_gI (jxO 9 [Value.ref 13, Value.int (Int32.ofNat σ.2.1.1), Value.int (Int32.ofNat σ.2.1.2.1)]) 9 1 = some (Int32.ofNat σ.2.1.1) from rfl, jk_bs, jk_succ, show jx_pF (jxO 9 [Value.ref 13, Value.int (Int32.ofNat σ.2.1.1), Value.int (Int32.ofNat σ.2.1.2.1)]) 9 1 (.int (Int32.ofNat (σ.2.1.1 + 1))) = some (jxO 9 [Value.ref 13, Value.int (Int32.ofNat (σ.2.1.1 + 1)), Value.int (Int32.ofNat σ.2.1.2.1)]) from rfl, jk_bs, if_pos (show jx_bool (1 : Int32) = true by simp [jx_bool]), jk_cI, if_neg (by decide), c1.g4, jk_bs, ct_g1 c1.tr, jk_bs]
    rfl
theorem cc_trailq (C : CSt h σ) (A : AWt σ) (i w : Int32) : ∃ h', (∀ d, jx_C rc (d + 20) 11 [.ref 0, .int i, .int w] h = some (some (.int (op_trail σ i w).1), h')) ∧ CSt h' (op_trail σ i w).2 ∧ cF h h' := by
  have n40 := Nat.le_trans A.tr.1 A.tr.2.1
  obtain ⟨o, ⟨Q, q1, q2⟩, s, k⟩ := C.tr
  obtain ⟨e', e1, e2, e3⟩ := cc_refuse (rc := rc) C A (k := 1) (by decide) (by decide) (K := 1) rfl
  obtain ⟨f', f1, f2, f3⟩ := cc_refuse (rc := rc) C A (k := 2) (by decide) (by decide) (K := 2) rfl
  have n4 : ∀ {w : Int32}, ¬ 4 < w → w ≤ 4 := fun h => by rw [Int32.le_iff_toInt_le]; rw [Int32.lt_iff_toInt_lt] at h; omega
  have g4 : ∀ {w : Int32}, 4 < w → ¬ w ≤ 4 := fun h q => by rw [Int32.le_iff_toInt_le] at q; rw [Int32.lt_iff_toInt_lt] at h; omega
  unfold op_trail
  by_cases c1 : w < 0
  · rw [if_pos c1]
    refine ⟨e', fun d => ?_, e2, e3⟩
    rw [je_11, if_pos C.is, if_pos c1, e1, jk_cI]
  · rw [if_neg c1]
    by_cases c2 : 4 < w
    · rw [if_pos c2]
      refine ⟨e', fun d => ?_, e2, e3⟩
      rw [je_11, if_pos C.is, if_neg c1, if_neg (g4 c2), e1, jk_cI]
    · rw [if_neg c2]
      by_cases c3 : i < 0
      · rw [if_pos c3]
        refine ⟨f', fun d => ?_, f2, f3⟩
        by_cases c4 : Int32.ofNat σ.2.1.1 ≤ i
        · rw [je_11, if_pos C.is, if_neg c1, if_pos (n4 c2), C.g4, jk_bs, ct_g1 C.tr, jk_bs, if_pos c4, f1, jk_cI]
        · rw [je_11, if_pos C.is, if_neg c1, if_pos (n4 c2), C.g4, jk_bs, ct_g1 C.tr, jk_bs, if_neg c4, jk_bs, je_312, if_pos (ct_is C.tr), if_pos c3, jk_cRn, jk_mon, f1, jk_cI]
      · rw [if_neg c3]
        by_cases c4 : Int32.ofNat σ.2.1.1 ≤ i
        · rw [if_pos c4]
          refine ⟨f', fun d => ?_, f2, f3⟩
          rw [je_11, if_pos C.is, if_neg c1, if_pos (n4 c2), C.g4, jk_bs, ct_g1 C.tr, jk_bs, if_pos c4, f1, jk_cI]
        · rw [if_neg c4]
          refine ⟨h, fun d => ?_, C, cFid⟩
          have ei := jk_of c3
          have il : pn i < σ.2.1.1 := by
            unfold pn
            rw [ei, jk_le (by omega) (jk_of_lt i)] at c4
            omega
          have hk := (k (pn i) (by have := A.tr.1; omega)).1
          have SA := ct_stepAt (rc := rc) C.tr (i := pn i) (by omega) (d + 18)
          rw [show Int32.ofNat (pn i) = i from ei.symm] at SA
          rw [je_11, if_pos C.is, if_neg c1, if_pos (n4 c2), C.g4, jk_bs, ct_g1 C.tr, jk_bs, if_neg c4, jk_bs, SA, jk_cRs, jk_mos, st_g0 hk, st_g1 hk, st_g2 hk, st_g3 hk, st_g4 hk]
          simp only [jk_bs]
          unfold jm_k
          by_cases w0 : w = 0
          · rw [if_pos w0, if_pos w0]
          · rw [if_neg w0, if_neg w0]
            by_cases w1 : w = 1
            · rw [if_pos (show w = 0 + 1 from w1), if_pos w1]
            · rw [if_neg (show ¬ w = 0 + 1 from w1), if_neg w1]
              by_cases w2 : w = 2
              · rw [if_pos (show w = 0 + 1 + 1 from w2), if_pos w2]
              · rw [if_neg (show ¬ w = 0 + 1 + 1 from w2), if_neg w2]
                by_cases w3 : w = 3
                · rw [if_pos (show w = 0 + 1 + 1 + 1 from w3), if_pos w3]
                · rw [if_neg (show ¬ w = 0 + 1 + 1 + 1 from w3), if_neg w3]
theorem cc_signs (C : CSt h σ) (A : AWt σ) : ∀ (m k : Nat), k + m = σ.2.1.1 → ∀ d, jb_317 rc d 4 [(0, .ref 12), (1, .int (jk_prod σ.2.1.2.2.2.1 k)), (2, .int (Int32.ofNat k))] [] h = some (some (.int (jk_prod σ.2.1.2.2.2.1 σ.2.1.1)), h)
  | 0, k, e, d => by
    have n40 := Nat.le_trans A.tr.1 A.tr.2.1
    have e : k = σ.2.1.1 := by omega
    rw [je_317_4, ct_g1 C.tr, jk_bs, if_pos ((jk_le (by omega) (by omega)).mpr (by omega)), e]
  | m + 1, k, e, d => by
    have n40 := Nat.le_trans A.tr.1 A.tr.2.1
    have hk := (C.tr.2.2.2 k (by have := A.tr.1; omega)).1
    rw [je_317_4, ct_g1 C.tr, jk_bs, if_neg (by rw [jk_le (by omega) (by omega)]; omega), if_neg (by rw [show (40 : Int32) = Int32.ofNat 40 from rfl, jk_le (by decide) (by omega)]; omega), ct_g0 C.tr, jk_bs, ct_q C.tr (by omega), jk_bs, jk_mos, st_g5 hk, jk_bs, jk_succ]
    exact cc_signs C A m (k + 1) (by omega) d
theorem cc_factor (C : CSt h σ) (A : AWt σ) : ∃ h', (∀ d, jx_C rc (d + 20) 12 [.ref 0] h = some (some (.int (op_factor σ).1), h')) ∧ CSt h' (op_factor σ).2 ∧ cF h h' := by
  refine ⟨h, fun d => ?_, C, cFid⟩
  have := cc_signs (rc := rc) C A σ.2.1.1 0 (by omega) (d + 18)
  rw [je_12, if_pos C.is, C.g4, jk_bs, je_317, if_pos (ct_is C.tr)]
  refine (congrArg (fun z => jx_cI z _) this).trans ?_
  rfl
end
