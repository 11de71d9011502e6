/-! The reference: move -/
section
variable {rc : Nat → Nat × (Nat → Int32)} {h h' : jxH} {P : Nat → Prop} {σ : jSt} {f : jF}
theorem go_norm {m : jM} (hk : m.1 = 0 ∨ m.1 = 1 ∨ m.1 = 2 ∨ m.1 = 3 ∨ m.1 = 4 ∨ m.1 = 5 ∨ m.1 = 6 ∨ m.1 = 7) : jm_norm m = (m.1, go_p m.1 m.2.1, go_q m.1 m.2.2.1, go_v m.1 m.2.2.2.1, go_s m.1 m.2.2.2.2) := by
  obtain ⟨k, p, q, v, s⟩ := m
  have h0 : jr_has 0 = 1 := by decide
  have h1 : jr_has 1 = 7 := by decide
  have h2 : jr_has 2 = 5 := by decide
  have h3 : jr_has 3 = 4 := by decide
  have h4 : jr_has 4 = 1 := by decide
  have h5 : jr_has 5 = 1 := by decide
  have h6 : jr_has 6 = 0 := by decide
  have h7 : jr_has 7 = 13 := by decide
  have b0 : jp_bt (Int32.toInt64 0) 1 3 = false := by decide
  have b1 : jp_bt (Int32.toInt64 1) 1 3 = true := by decide
  have b2 : jp_bt (Int32.toInt64 2) 1 3 = true := by decide
  have b3 : jp_bt (Int32.toInt64 3) 1 3 = true := by decide
  have b4 : jp_bt (Int32.toInt64 4) 1 3 = false := by decide
  have b5 : jp_bt (Int32.toInt64 5) 1 3 = false := by decide
  have b6 : jp_bt (Int32.toInt64 6) 1 3 = false := by decide
  have b7 : jp_bt (Int32.toInt64 7) 1 3 = false := by decide
  rcases hk with rfl | rfl | rfl | rfl | rfl | rfl | rfl | rfl <;> unfold jm_norm go_p go_q go_v go_s <;> dsimp only
  · rw [b0, h0]; simp [jk_l1_1, jk_l1_2, jk_l1_4, jk_l1_8]
  · rw [b1, h1]; simp [jk_l7_1, jk_l7_2, jk_l7_4, jk_l7_8]
  · rw [b2, h2]; simp [jk_l5_1, jk_l5_2, jk_l5_4, jk_l5_8]
  · rw [b3, h3]; simp [jk_l4_1, jk_l4_2, jk_l4_4, jk_l4_8]
  · rw [b4, h4]; simp [jk_l1_1, jk_l1_2, jk_l1_4, jk_l1_8]
  · rw [b5, h5]; simp [jk_l1_1, jk_l1_2, jk_l1_4, jk_l1_8]
  · rw [b6, h6]; simp
  · rw [b7, h7]; simp [jk_l13_1, jk_l13_2, jk_l13_4, jk_l13_8]
theorem rr_goes (R : RSt h σ) (A : AWt σ) {m : jM} (e : jf_ref (sF σ) false m = 0) (h40 : σ.2.1.1 < 40) : ∃ h', (∀ d, jx_C rc (d + 8) 101 [.ref 336, .int m.1, .int m.2.1, .int m.2.2.1, .int m.2.2.2.1, .int m.2.2.2.2] h = some (none, h')) ∧ RSt h' (σ.1, tr_push σ.2.1 (jm_norm m), σ.2.2) ∧ rF h h' := by
  have hk := jf_ref_k e
  have a1 := A.tr.1
  have m40 := A.tr.2.1
  generalize hn : σ.2.1.1 = n at *
  obtain ⟨⟨a, b, c, d', e', f, g, k', o, o'⟩, -⟩ := id R
  rw [hn] at o
  obtain ⟨t1, t2, t3, D, t4, t5⟩ := R.tr
  obtain ⟨h1, r1, r2, r3, r4⟩ := go_0 (rc := rc) (m := m) h40 o R.F t1 (t2 n (by omega)) t4
  obtain ⟨h2, s1, s2, s3, s4, s5, s6⟩ := go_74 (rc := rc) (m := m) h40 ((r4.2.2 _ (by omega)).trans o) (ro_fr r4 (by omega) R.F) (rows_fr r4 (by omega) t1) (by obtain ⟨g, q⟩ := t2 (n + 1) (by omega); exact ⟨g, ro_fr r4 (by omega) q⟩) r3 A.B e (go_s m.1 m.2.2.2.2)
  have FF : Fr (fun x => x = 336 ∨ x = 338 ∨ x = 340 + n ∨ x = 340 + (n + 1) ∨ x = 381) h h2 := (r4.mono fun x q => by omega).trans (s6.mono fun x q => by omega)
  obtain ⟨en1, en2⟩ := jf_act_norm (sF σ) m hk
  have hsF : tr_F σ.2.1 = σ.2.1.2.2.2.2 n := by unfold tr_F; rw [hn]
  have K : RSt h2 (σ.1, tr_push σ.2.1 (jm_norm m), σ.2.2) ∧ rF h h2 := by
    have tF : tr_F (tr_push σ.2.1 (jm_norm m)) = jf_act (sF σ) m := by
      unfold tr_F tr_push
      dsimp only
      rw [if_neg (by omega)]; exact en1
    refine rr_trF (t' := tr_push σ.2.1 (jm_norm m)) R FF (fun x q => by unfold m_trP; omega) ⟨a, b, c, d', e', f, g, k', ?_, o'⟩ ?_ ⟨rows_fr FF (by omega) t1, fun i hi => ?_, fun i hi => Or.inr ?_, _, s5, fun i hi => ?_⟩
    · rw [s2, show (tr_push σ.2.1 (jm_norm m)).1 = n + 1 by rw [← hn]; rfl, show (tr_push σ.2.1 (jm_norm m)).2.1 = n + 1 by rw [← hn]; rfl]
    · rw [tF]; exact s3
    · by_cases q : i = n + 1
      · subst q; exact ⟨_, s4⟩
      · by_cases q2 : i = n
        · subst q2; exact ⟨_, ro_fr s6 (by omega) r2⟩
        · obtain ⟨f, z⟩ := t2 i hi
          exact ⟨f, ro_fr FF (by omega) z⟩
    · have hi : i ≤ σ.2.1.1 + 1 := hi
      rw [hn] at hi
      show ro_at h2 (340 + i) (if i ≤ σ.2.1.1 then σ.2.1.2.2.2.2 i else jf_act (tr_F σ.2.1) (jm_norm m))
      by_cases q : i = n + 1
      · subst q
        rw [if_neg (by omega), show tr_F σ.2.1 = sF σ from rfl, en1]; exact s4
      · rw [if_pos (by omega)]
        by_cases q2 : i = n
        · subst q2
          rw [← hsF]; exact ro_fr s6 (by omega) r2
        · exact ro_fr FF (by omega) ((t3 i (by omega)).resolve_left (by omega))
    · have hi : i < σ.2.1.1 + 1 := hi
      rw [hn] at hi
      show _ = (va_up σ.2.1.2.2.1 σ.2.1.1 (jm_norm m) i).1 ∧ _ = (va_up σ.2.1.2.2.1 σ.2.1.1 (jm_norm m) i).2.1 ∧ _ = (va_up σ.2.1.2.2.1 σ.2.1.1 (jm_norm m) i).2.2.1 ∧ _ = (va_up σ.2.1.2.2.1 σ.2.1.1 (jm_norm m) i).2.2.2.1 ∧ _ = (va_up σ.2.1.2.2.1 σ.2.1.1 (jm_norm m) i).2.2.2.2 ∧ _ = upd σ.2.1.2.2.2.1 σ.2.1.1 (jf_sign (tr_F σ.2.1) (jm_norm m)) i
      rw [hn]
      by_cases q2 : i = n
      · subst q2
        rw [show va_up σ.2.1.2.2.1 i (jm_norm m) i = jm_norm m by unfold va_up; rw [if_pos rfl], upd_at, show tr_F σ.2.1 = sF σ from rfl, en2, go_norm hk]
        unfold upd
        refine ⟨?_, ?_, ?_, ?_, ?_, ?_⟩
        · rw [if_neg (by omega), if_neg (by omega), if_neg (by omega), if_neg (by omega), if_neg (by omega), if_pos rfl]
        · rw [if_neg (by omega), if_neg (by omega), if_neg (by omega), if_neg (by omega), if_pos rfl]
        · rw [if_neg (by omega), if_neg (by omega), if_neg (by omega), if_pos rfl]
        · rw [if_neg (by omega), if_neg (by omega), if_pos rfl]
        · rw [if_neg (by omega), if_pos rfl]
        · rw [if_pos rfl]
      · have hin : i < n := by omega
        have z : ∀ j, j < 6 → upd (upd (upd (upd (upd (upd D (6 * n) m.1) (6 * n + 1) (go_p m.1 m.2.1)) (6 * n + 2) (go_q m.1 m.2.2.1)) (6 * n + 3) (go_v m.1 m.2.2.2.1)) (6 * n + 4) (go_s m.1 m.2.2.2.2)) (6 * n + 5) (jf_sign (sF σ) m) (6 * i + j) = D (6 * i + j) := fun j hj => by
          unfold upd
          rw [if_neg (by omega), if_neg (by omega), if_neg (by omega), if_neg (by omega), if_neg (by omega), if_neg (by omega)]
        rw [show va_up σ.2.1.2.2.1 n (jm_norm m) i = σ.2.1.2.2.1 i by unfold va_up; rw [if_neg q2], upd_ne _ _ q2]
        obtain ⟨d0, d1, d2, d3, d4, d5⟩ := t5 i (by omega)
        exact ⟨(z 0 (by decide)).trans d0, (z 1 (by decide)).trans d1, (z 2 (by decide)).trans d2, (z 3 (by decide)).trans d3, (z 4 (by decide)).trans d4, (z 5 (by decide)).trans d5⟩
  exact ⟨h2, fun d => (r1 d).trans (s1 d), K.1, K.2⟩
theorem rr_move (R : RSt h σ) (A : AWt σ) (k p q v s : Int32) : ∃ h', (∀ d, jx_C rc (d + 20) 102 [.ref 336, .int k, .int p, .int q, .int v, .int s] h = some (some (.int (op_move σ k p q v s).1), h')) ∧ RSt h' (op_move σ k p q v s).2 ∧ rF h h' := by
  have n40 := Nat.le_trans A.tr.1 A.tr.2.1
  have X := fun d => rf_refused (rc := rc) R.F A.B.n (k, p, q, v, s) d
  dsimp only at X
  generalize hm : (k, p, q, v, s) = m at X
  have e40 : (Int32.ofNat σ.2.1.1 = 40) ↔ 40 ≤ σ.2.1.1 := by
    rw [show (40 : Int32) = Int32.ofNat 40 from rfl, jk_inj (by omega) (by decide)]; omega
  unfold op_move
  rw [hm]
  have err : ∀ x : Int32, jf_ref (sF σ) (decide (40 ≤ σ.2.1.1)) m = x → x ≠ 0 → ∃ h', (∀ d, jx_C rc (d + 19) 73 [.ref 336, .int x] h = some (some (.int (er σ (ref_n (sF σ) (decide (40 ≤ σ.2.1.1)) m)).1), h')) ∧ RSt h' (er σ (ref_n (sF σ) (decide (40 ≤ σ.2.1.1)) m)).2 ∧ rF h h' := fun x e z => by
    obtain ⟨e1, e2⟩ := ref_n_eq (sF σ) (decide (40 ≤ σ.2.1.1)) m
    obtain ⟨h1, a, b, c⟩ := rr_error (rc := rc) R A (k := ref_n (sF σ) (decide (40 ≤ σ.2.1.1)) m) (by omega) (K := x) (by rw [← e, ← e1])
    exact ⟨h1, fun d => a (d + 18), b, c⟩
  by_cases c40 : 40 ≤ σ.2.1.1
  · rw [decide_eq_true c40] at err ⊢
    have nz : ref_g (jf_ref (sF σ) false m) ≠ 0 := fun z => by
      unfold ref_g at z
      split at z
      · exact absurd z (by decide)
      · rename_i w; exact w (Or.inl z)
    rw [if_neg (fun z => nz (by rw [← jf_ref_full]; exact z))]
    obtain ⟨h1, a, b, c⟩ := err _ (jf_ref_full ..) nz
    refine ⟨h1, fun d => ?_, b, c⟩
    have X0 := X (d + 13)
    rw [je_102, if_pos R.is, R.g1, jk_bs]
    refine (congrArg (fun z => jx_cI z _) X0).trans ?_
    rw [jk_cI]
    unfold ref_g at a
    by_cases c0 : jf_ref (sF σ) false m = 0
    · rw [if_pos (Or.inl c0)] at a
      rw [if_pos c0, je_102_14, R.done, jk_bs, if_pos (e40.mpr c40), if_neg (by decide), a, jk_cI]
    · rw [if_neg c0]
      by_cases c5 : jf_ref (sF σ) false m = 5
      · rw [if_pos (Or.inr c5)] at a
        rw [if_pos c5, je_102_14, R.done, jk_bs, if_pos (e40.mpr c40), if_neg (by decide), a, jk_cI]
      · rw [if_neg (by simp [c0, c5])] at a
        rw [if_neg c5, if_neg c0, a, jk_cI]
  · rw [decide_eq_false c40] at err ⊢
    by_cases c0 : jf_ref (sF σ) false m = 0
    · rw [if_pos c0]
      obtain ⟨h1, a, b, c⟩ := rr_goes (rc := rc) R A c0 (by omega)
      have en1 := (jf_act_norm (sF σ) m (jf_ref_k c0)).1
      have G : ro_at h1 338 (jf_act (sF σ) m) := by
        have := b.F
        unfold sF tr_F tr_push at this
        dsimp only at this
        rw [if_neg (by omega)] at this
        rw [← en1]; exact this
      refine ⟨h1, fun d => ?_, b, c⟩
      have X0 := X (d + 13)
      have a0 := a (d + 11)
      rw [← hm] at a0
      dsimp only at a0
      rw [je_102, if_pos R.is, R.g1, jk_bs]
      refine (congrArg (fun z => jx_cI z _) X0).trans ?_
      rw [jk_cI, c0, if_pos rfl, je_102_14, R.done, jk_bs, if_neg (fun z => c40 (e40.mp z)), if_pos rfl, a0, jk_cV, b.g1, jk_bs, ro_0 G, jk_bs, rf_many, jk_cI]
    · rw [if_neg c0]
      obtain ⟨h1, a, b, c⟩ := err _ rfl c0
      refine ⟨h1, fun d => ?_, b, c⟩
      have X0 := X (d + 13)
      rw [je_102, if_pos R.is, R.g1, jk_bs]
      refine (congrArg (fun z => jx_cI z _) X0).trans ?_
      rw [jk_cI, if_neg c0]
      by_cases c5 : jf_ref (sF σ) false m = 5
      · rw [if_pos c5, je_102_14, R.done, jk_bs, if_neg (fun z => c40 (e40.mp z)), if_neg c0, a, jk_cI]
      · rw [if_neg c5, if_neg c0, a, jk_cI]
end
