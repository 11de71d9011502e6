/-! The class: the trail -/
def op_move (σ : jSt) (k p q v s : Int32) : Int32 × jSt := if jf_ref (sF σ) (decide (40 ≤ σ.2.1.1)) (k, p, q, v, s) = 0 then (Int32.ofNat (bc (jf_act (sF σ) (k, p, q, v, s)).2.2), (σ.1, tr_push σ.2.1 (jm_norm (k, p, q, v, s)), σ.2.2)) else er σ (ref_n (sF σ) (decide (40 ≤ σ.2.1.1)) (k, p, q, v, s))
def tr_at (t : jT) (n : Nat) : jT := (n, t.2)
def op_undo (σ : jSt) : Int32 × jSt := if σ.2.1.1 = 0 then er σ 2 else (Int32.ofNat (σ.2.1.1 - 1), (σ.1, tr_at σ.2.1 (σ.2.1.1 - 1), σ.2.2))
def op_redo (σ : jSt) : Int32 × jSt := if σ.2.1.2.1 ≤ σ.2.1.1 then er σ 2 else (Int32.ofNat (σ.2.1.1 + 1), (σ.1, tr_at σ.2.1 (σ.2.1.1 + 1), σ.2.2))
def jm_k (m : jM) (w : Int32) : Int32 := if w = 0 then m.1 else if w = 1 then m.2.1 else if w = 2 then m.2.2.1 else if w = 3 then m.2.2.2.1 else m.2.2.2.2
def op_trail (σ : jSt) (i w : Int32) : Int32 × jSt := if w < 0 then er σ 1 else if 4 < w then er σ 1 else if i < 0 then er σ 2 else if Int32.ofNat σ.2.1.1 ≤ i then er σ 2 else (jm_k (σ.2.1.2.2.1 (pn i)) w, σ)
def op_factor (σ : jSt) : Int32 × jSt := (jk_prod σ.2.1.2.2.2.1 σ.2.1.1, σ)
section
variable {rc : Nat → Nat × (Nat → Int32)} {h : jxH} {σ : jSt}
theorem ct_is {t : jT} (H : c_tr h t) : jx_is (jx_at h 12) 9 = true := by rw [H.1]; rfl
theorem ct_g0 {t : jT} (H : c_tr h t) : jx_gR (jx_at h 12) 9 0 = some 13 := by rw [H.1]; rfl
theorem ct_g1 {t : jT} (H : c_tr h t) : jx_gI (jx_at h 12) 9 1 = some (Int32.ofNat t.1) := by rw [H.1]; rfl
theorem ct_g2 {t : jT} (H : c_tr h t) : jx_gI (jx_at h 12) 9 2 = some (Int32.ofNat t.2.1) := by rw [H.1]; rfl
theorem ct_q {t : jT} (H : c_tr h t) {i : Nat} (hi : i < 40) : jx_aQ (jx_at h 13) 6 (Int32.ofNat i) = some (some (14 + 4 * i)) := by
  obtain ⟨Q, q1, q2⟩ := H.2.1
  rw [q1, jk_aQ hi (by decide), q2 i hi]
theorem ct_stepAt {t : jT} (H : c_tr h t) {i : Nat} (hi : i < 40) (d : Nat) : jx_C rc (d + 1) 312 [.ref 12, .int (Int32.ofNat i)] h = some (some (.ref (14 + 4 * i)), h) := by
  rw [je_312, if_pos (ct_is H), if_neg (jk_nn (by omega)), if_neg (by rw [show (40 : Int32) = Int32.ofNat 40 from rfl, jk_le (by decide) (by omega)]; omega), ct_g0 H, jk_bs, ct_q H hi, jk_bs, jk_mos]
theorem jk_num (i : Nat) (P : Nat → Prop) (h : i < 40) (k : ∀ j, j < 40 → P j) : P i := k i h
/-- the class's state, but for the trail's own region -/
theorem cc_trail {h' : jxH} {t' : jT} (C : CSt h σ) (F : Fr (fun x => (2 ≤ x ∧ x < 5) ∨ (12 ≤ x ∧ x < 174)) h h') (G : fo_at h' 2 (tr_F t')) (S : c_tr h' t') : CSt h' (σ.1, t', σ.2.2) ∧ cF h h' :=
  ⟨CS_tr C F (fun x q => by omega) G S (scr_fr F (fun x a q => by unfold c_scrP at a; omega) C.scr), cF.of F (fun x q => by omega)⟩
/-- perform() -/
theorem cc_perform (hr : jk_rom rc) (C : CSt h σ) (A : AWt σ) {m : jM} {sg : Int32} (H : st_at h 8 m sg) (hm : jm_norm m = m) (e : jf_ref (sF σ) false m = 0) (h40 : σ.2.1.1 < 40) : ∃ h', (∀ d, jx_C rc (d + 6) 314 [.ref 12, .ref 8, .ref 2] h = some (none, h')) ∧ CSt h' (σ.1, tr_push σ.2.1 m, σ.2.2) ∧ cF h h' ∧ (∀ x, x < 2 → jx_at h' x = jx_at h x) ∧ h'.1 = h.1 ∧ h'.2.1 = h.2.1 := by
  obtain ⟨o, ⟨Q, q1, q2⟩, s, k⟩ := C.tr
  have kn := jf_ref_k e
  -- the step at hand
  obtain ⟨⟨m0, sg0, s1⟩, f0, s2⟩ := s σ.2.1.1 h40
  generalize hd : σ.2.1.1 = n at h40 s1 s2
  have hn : tr_F σ.2.1 = σ.2.1.2.2.2.2 n := by unfold tr_F; rw [hd]
  obtain ⟨h1, r1, r2, r3⟩ := st_mean (rc := rc) hr s1 m.1 m.2.1 m.2.2.1 m.2.2.2.1 m.2.2.2.2
  rw [show (m.1, m.2.1, m.2.2.1, m.2.2.2.1, m.2.2.2.2) = m from rfl, hm] at r2
  have F1 : fo_at h1 2 (sF σ) := fo_fr r3 (fun x a b => by omega) C.F
  have P1 : fo_at h1 (14 + 4 * n + 1) f0 := fo_fr r3 (fun x a b => by omega) s2
  -- its sign
  have e2 : jx_pF (jx_at h1 (14 + 4 * n)) 6 5 (.int (jf_sign (sF σ) m)) = some (jxO 6 [.int m.1, .int m.2.1, .int m.2.2.1, .int m.2.2.2.1, .int m.2.2.2.2, .int (jf_sign (sF σ) m), .ref (14 + 4 * n + 1)]) := by rw [r2]; rfl
  have r4 : Fr (fun x => x = 14 + 4 * n) h1 (jx_set h1 (14 + 4 * n) (jxO 6 [.int m.1, .int m.2.1, .int m.2.2.1, .int m.2.2.2.1, .int m.2.2.2.2, .int (jf_sign (sF σ) m), .ref (14 + 4 * n + 1)])) := Fr.one
  generalize hh2 : jx_set h1 (14 + 4 * n) (jxO 6 [.int m.1, .int m.2.1, .int m.2.2.1, .int m.2.2.2.1, .int m.2.2.2.2, .int (jf_sign (sF σ) m), .ref (14 + 4 * n + 1)]) = h2 at r4
  have S2 : st_at h2 (14 + 4 * n) m (jf_sign (sF σ) m) := by rw [← hh2]; exact jk_at_self ..
  have F2 := fo_fr r4 (fun x a b => by omega) F1
  have P2 := fo_fr r4 (fun x a b => by omega) P1
  obtain ⟨h3, t1, t2, t3⟩ := fo_follow (rc := rc) P2 F2 (by omega)
  have S3 : st_at h3 (14 + 4 * n) m (jf_sign (sF σ) m) := st_fr t3 (fun q => by have := q.1; omega) S2
  have F3 : fo_at h3 2 (sF σ) := fo_fr t3 (fun x a b q => by have := q.1; omega) F2
  obtain ⟨h4, u1, u2, u3⟩ := st_act (rc := rc) S3 F3 A.B (by omega) e
  have S4 := st_fr u3 (fun q => by have := q.2; omega) S3
  have P4 : fo_at h4 (14 + 4 * n + 1) (sF σ) := fo_fr u3 (fun x a b q => by have := q.2; omega) t2
  have FF : Fr (fun x => (2 ≤ x ∧ x < 5) ∨ (14 + 4 * n ≤ x ∧ x < 18 + 4 * n)) h h4 :=
    (((r3.mono fun x q => by omega).trans (r4.mono fun x q => by omega)).trans (t3.mono fun x q => by have := q.1; have := q.2; omega)).trans (u3.mono fun x q => by have := q.1; have := q.2; omega)
  have o4 : jx_at h4 12 = jxO 9 [.ref 13, .int (Int32.ofNat n), .int (Int32.ofNat σ.2.1.2.1)] := (FF.2.2 12 (by omega)).trans (by rw [o, hd])
  refine ⟨jx_set h4 12 (jxO 9 [.ref 13, .int (Int32.ofNat (n + 1)), .int (Int32.ofNat (n + 1))]), fun d => ?_, ?_⟩
  · rw [je_314, if_pos (ct_is C.tr), ct_g1 C.tr, jk_bs, hd, ct_stepAt C.tr h40, jk_cRs, jk_mos, st_g0 H, jk_bs, st_g1 H, jk_bs, st_g2 H, jk_bs, st_g3 H, jk_bs, st_g4 H, jk_bs, r1, jk_cV, st_signOn r2 F1 A.B.s kn, jk_cI, e2, jk_bs, hh2, st_g6 S2, jk_bs, t1, jk_cV, u1, jk_cV, o4, show jx_gI (jxO 9 [Value.ref 13, Value.int (Int32.ofNat n), Value.int (Int32.ofNat σ.2.1.2.1)]) 9 1 = some (Int32.ofNat n) from rfl, jk_bs, jk_succ, show jx_pF (jxO 9 [Value.ref 13, Value.int (Int32.ofNat n), Value.int (Int32.ofNat σ.2.1.2.1)]) 9 1 (.int (Int32.ofNat (n + 1))) = some (jxO 9 [Value.ref 13, Value.int (Int32.ofNat (n + 1)), Value.int (Int32.ofNat σ.2.1.2.1)]) from rfl, jk_bs, jk_at_self, show jx_gI (jxO 9 [Value.ref 13, Value.int (Int32.ofNat (n + 1)), Value.int (Int32.ofNat σ.2.1.2.1)]) 9 1 = some (Int32.ofNat (n + 1)) from rfl, jk_bs, show jx_pF (jxO 9 [Value.ref 13, Value.int (Int32.ofNat (n + 1)), Value.int (Int32.ofNat σ.2.1.2.1)]) 9 2 (.int (Int32.ofNat (n + 1))) = some (jxO 9 [Value.ref 13, Value.int (Int32.ofNat (n + 1)), Value.int (Int32.ofNat (n + 1))]) from rfl, jk_bs, jk_set_set]
  · have F5 : Fr (fun x => x = 12) h4 (jx_set h4 12 (jxO 9 [.ref 13, .int (Int32.ofNat (n + 1)), .int (Int32.ofNat (n + 1))])) := Fr.one
    have FA := (FF.mono (fun x q => (by omega : (2 ≤ x ∧ x < 5) ∨ (12 ≤ x ∧ x < 174)))).trans (F5.mono fun x q => (by omega : (2 ≤ x ∧ x < 5) ∨ (12 ≤ x ∧ x < 174)))
    have G5 : fo_at (jx_set h4 12 (jxO 9 [.ref 13, .int (Int32.ofNat (n + 1)), .int (Int32.ofNat (n + 1))])) 2 (tr_F (tr_push σ.2.1 m)) := by
      have := fo_fr F5 (fun x a b => by omega) u2
      unfold tr_F tr_push
      dsimp only
      rw [if_neg (by omega)]
      exact this
    have TR : c_tr (jx_set h4 12 (jxO 9 [.ref 13, .int (Int32.ofNat (n + 1)), .int (Int32.ofNat (n + 1))])) (tr_push σ.2.1 m) := by
      refine ⟨by unfold tr_push; rw [hd]; exact jk_at_self .., ⟨Q, (F5.2.2 13 (by omega)).trans ((FF.2.2 13 (by omega)).trans q1), q2⟩, fun i hi => ?_, fun i hi => ?_⟩
      · by_cases z : i = n
        · subst z
          exact sk_fr F5 (fun x a b => by omega) ⟨⟨_, _, S4⟩, _, P4⟩
        · exact sk_fr F5 (fun x a b => by omega) (sk_fr FF (fun x a b => by omega) (s i hi))
      · have hi : i < σ.2.1.1 + 1 := hi
        rw [hd] at hi
        by_cases z : i = n
        · subst z
          refine ⟨?_, ?_⟩
          · unfold tr_push
            dsimp only
            rw [hd, va_self, upd_at]
            exact st_fr F5 (by omega) S4
          · unfold tr_push
            dsimp only
            rw [if_pos (by omega), show 15 + 4 * i = 14 + 4 * i + 1 by omega]
            have := fo_fr F5 (fun x a b => by omega) P4
            unfold sF at this
            rw [hn] at this
            exact this
        · obtain ⟨k1, k2⟩ := k i (by have := A.tr.1; omega)
          refine ⟨?_, ?_⟩
          · unfold tr_push
            dsimp only
            rw [hd, va_ne _ _ z, upd_ne _ _ z]
            exact st_fr F5 (by omega) (st_fr FF (by omega) k1)
          · unfold tr_push
            dsimp only
            rw [if_pos (by omega)]
            exact fo_fr F5 (fun x a b => by omega) (fo_fr FF (fun x a b => by omega) k2)
    obtain ⟨c1, c2⟩ := cc_trail (t' := tr_push σ.2.1 m) C FA G5 TR
    exact ⟨c1, c2, fun x hx => FA.2.2 x (by omega), FA.1, FA.2.1⟩
end
