/-! The reference: fetch, drop, keep; what stands stays well formed -/
section
variable {rc : Nat → Nat × (Nat → Int32)} {h h' : jxH} {σ : jSt} {P : Nat → Prop}
theorem RS_sh {sh' : jH} (R : RSt h σ) (A : AWt σ) (F : Fr P h h') (hP : ∀ x, P x → 430 ≤ x ∧ x < 436) (S : m_sh h' sh') : RSt h' (σ.1, σ.2.1, sh', σ.2.2.2) ∧ rF h h' := by
  have n : ∀ x, ¬ (430 ≤ x ∧ x < 436) → ¬ P x := fun x a b => a (hP x b)
  obtain ⟨⟨a, b, c, d, e, f, g, k, o, o'⟩, r1, r2, r3, r4, r5, r6, r7, r8, r9⟩ := R
  exact ⟨⟨⟨a, b, c, d, e, f, g, k, (F.2.2 _ (n _ (by omega))).trans o, o'⟩, mtold_fr F (n _ (by omega)) r1, ro_fr F (n _ (by omega)) r2, mtr_fr F (fun x _ _ => n _ (by omega)) A.tr.2.1 r3, S, mss_fr F (fun x _ _ => n _ (by omega)) r5, mcrew_fr F (n _ (by omega)) r6, mim_fr F (n _ (by omega)) (n _ (by omega)) r7, mtape_fr F (n _ (by omega)) r8, mscr_fr F (fun x q => n _ (by unfold m_scrP at q; omega)) r9⟩, F.mono fun x q => by have := hP x q; omega⟩
theorem RSt.sh (R : RSt h σ) : m_sh h σ.2.2.1 := R.2.2.2.2.1
theorem RSt.g22 (R : RSt h σ) : jx_gR (jx_at h 336) 12 22 = some 430 := R.M.g 22 430 (by intros; rfl)
theorem RSt.g23 (R : RSt h σ) : jx_gR (jx_at h 336) 12 23 = some 435 := R.M.g 23 435 (by intros; rfl)
theorem rf_four (d : Nat) (k : Int32) : jx_C rc (d + 2) 168 [.int k] h = some (some (.int (jk_b (jp_four k))), h) := by
  rw [je_168, rf_in, show (3 : Int64) = (3 : Int32).toInt64 from rfl, jp_bt_hi, jp_four_hi, jk_cI, if_pos (jk_bb _)]
theorem rr_fetch (R : RSt h σ) (A : AWt σ) (k : Int32) : ∃ h', (∀ d, jx_C rc (d + 20) 170 [.ref 336, .int k] h = some (some (.int (op_fetch σ k).1), h')) ∧ RSt h' (op_fetch σ k).2 ∧ rF h h' := by
  unfold op_fetch
  obtain ⟨e', e1, e2, e3⟩ := rr_error (rc := rc) R A (k := 1) (by decide) (K := 1) rfl
  by_cases c0 : jp_four k = true
  · rw [if_pos c0]
    obtain ⟨j, hj, rfl⟩ := jp_four_iff.mp c0
    rw [pn_4 hj]
    obtain ⟨r, ⟨B, b1, b2⟩, a⟩ := R.sh
    have st : ∀ d, jx_C rc (d + 20) 170 [.ref 336, .int (Int32.ofNat j)] h = _ := fun d => by
      rw [je_170, if_pos R.is, rf_four, jk_cI, jk_if0, if_pos c0, R.g23, jk_bs, b1, jk_aI hj (by decide), jk_bs, b2 j hj, jk_if0]
    cases hs : σ.2.2.1 j with
    | none =>
      obtain ⟨f', f1, f2, f3⟩ := rr_error (rc := rc) R A (k := 7) (by decide) (K := 7) rfl
      refine ⟨f', fun d => ?_, f2, f3⟩
      rw [st d, hs, if_neg (by decide), f1, jk_cI]
    | some f =>
      obtain ⟨h1, r1, r2, r3⟩ := rr_byHand (rc := rc) R A
      obtain ⟨r', -, a'⟩ := r2.sh
      obtain ⟨h2, s1, s2, s3⟩ := ro_copies (rc := rc) (a := 431 + j) (b := 338) (by omega) ((a' j hj).2 f hs) r2.F
      have R2 := rr_F r2 s3 s2
      refine ⟨h2, fun d => ?_, R2, r3.trans (rF.one (by decide) (by decide) s3)⟩
      rw [st d, hs, if_pos (show (some f).isSome = true from rfl), r1, jk_cV, r2.g22, jk_bs, m_rows_q r' hj (by decide), jk_bs, jk_mos, r2.g1, jk_bs, s1, jk_cV, R2.g1, jk_bs, ro_0 s2, jk_bs, rf_many, jk_cI]
  · rw [if_neg c0]
    refine ⟨e', fun d => ?_, e2, e3⟩
    rw [je_170, if_pos R.is, rf_four, jk_cI, jk_if0, if_neg c0, e1, jk_cI]
theorem rr_drop (R : RSt h σ) (A : AWt σ) (k : Int32) : ∃ h', (∀ d, jx_C rc (d + 20) 171 [.ref 336, .int k] h = some (some (.int (op_drop σ k).1), h')) ∧ RSt h' (op_drop σ k).2 ∧ rF h h' := by
  unfold op_drop
  obtain ⟨e', e1, e2, e3⟩ := rr_error (rc := rc) R A (k := 1) (by decide) (K := 1) rfl
  by_cases c0 : jp_four k = true
  · rw [if_pos c0]
    obtain ⟨j, hj, rfl⟩ := jp_four_iff.mp c0
    rw [pn_4 hj]
    obtain ⟨r, ⟨B, b1, b2⟩, a⟩ := R.sh
    have F : Fr (fun x => x = 435) h (jx_set h 435 (jxI 3 4 (upd B j 0))) := Fr.one
    have K := RS_sh (sh' := va_up σ.2.2.1 j none) R A F (fun x q => by omega) ⟨rows_fr F (by decide) r, ⟨_, jk_at_self .., fun i hi => by
      unfold upd va_up
      by_cases z : i = j
      · rw [if_pos z, if_pos z]; rfl
      · rw [if_neg z, if_neg z]; exact b2 i hi⟩, fun i hi => by
      obtain ⟨⟨f, q⟩, q2⟩ := a i hi
      refine ⟨⟨f, ro_fr F (by omega) q⟩, fun g hg => ?_⟩
      unfold va_up at hg
      by_cases z : i = j
      · rw [if_pos z] at hg; cases hg
      · rw [if_neg z] at hg; exact ro_fr F (by omega) (q2 g hg)⟩
    refine ⟨_, fun d => ?_, K.1, K.2⟩
    rw [je_171, if_pos R.is, rf_four, jk_cI, jk_if0, if_pos c0, R.g23, jk_bs, b1, jk_aI hj (by decide), jk_bs, b2 j hj, jk_if0]
    cases hs : σ.2.2.1 j with
    | none => rw [if_neg (by decide), jk_bs, if_pos jk_r0', b1, jk_sI hj (by decide), jk_bs]; rfl
    | some f => rw [if_pos (show (some f).isSome = true from rfl), jk_bs, if_pos jk_r0', b1, jk_sI hj (by decide), jk_bs]; rfl
  · rw [if_neg c0]
    refine ⟨e', fun d => ?_, e2, e3⟩
    rw [je_171, if_pos R.is, rf_four, jk_cI, jk_if0, if_neg c0, e1, jk_cI]
theorem rr_keep (R : RSt h σ) (A : AWt σ) (k : Int32) : ∃ h', (∀ d, jx_C rc (d + 20) 169 [.ref 336, .int k] h = some (some (.int (op_keep σ k).1), h')) ∧ RSt h' (op_keep σ k).2 ∧ rF h h' := by
  unfold op_keep
  obtain ⟨e', e1, e2, e3⟩ := rr_error (rc := rc) R A (k := 1) (by decide) (K := 1) rfl
  by_cases c0 : jp_four k = true
  · rw [if_pos c0]
    obtain ⟨j, hj, rfl⟩ := jp_four_iff.mp c0
    rw [pn_4 hj]
    obtain ⟨r, ⟨B, b1, b2⟩, a⟩ := R.sh
    obtain ⟨g, hg⟩ := (a j hj).1
    obtain ⟨h1, s1, s2, s3⟩ := ro_copies (rc := rc) (a := 338) (b := 431 + j) (by omega) R.F hg
    have o1 : jx_at h1 336 = jx_at h 336 := s3.2.2 _ (by omega)
    have F : Fr (fun x => x = 435) h1 (jx_set h1 435 (jxI 3 4 (upd B j 1))) := Fr.one
    have FF : Fr (fun x => x = 431 + j ∨ x = 435) h (jx_set h1 435 (jxI 3 4 (upd B j 1))) := (s3.mono fun x q => Or.inl q).trans (F.mono fun x q => Or.inr q)
    have K := RS_sh (sh' := va_up σ.2.2.1 j (some (sF σ))) R A FF (fun x q => by omega) ⟨rows_fr FF (by omega) r, ⟨_, jk_at_self .., fun i hi => by
      unfold upd va_up
      by_cases z : i = j
      · rw [if_pos z, if_pos z]; rfl
      · rw [if_neg z, if_neg z]; exact b2 i hi⟩, fun i hi => by
      unfold va_up
      by_cases z : i = j
      · subst z
        rw [if_pos rfl]
        refine ⟨⟨_, ro_fr F (by omega) s2⟩, fun g hg => ?_⟩
        cases hg; exact ro_fr F (by omega) s2
      · rw [if_neg z]
        obtain ⟨⟨f, q⟩, q2⟩ := a i hi
        exact ⟨⟨f, ro_fr FF (by omega) q⟩, fun g hg => ro_fr FF (by omega) (q2 g hg)⟩⟩
    refine ⟨_, fun d => ?_, K.1, K.2⟩
    rw [je_169, if_pos R.is, rf_four, jk_cI, jk_if0, if_pos c0, R.g1, jk_bs, R.g22, jk_bs, m_rows_q r hj (by decide), jk_bs, jk_mos, s1, jk_cV, o1, R.g23, jk_bs, if_pos (show jx_bool (1 : Int32) = true by simp [jx_bool]), s3.2.2 435 (by omega), b1, jk_sI hj (by decide), jk_bs, K.1.g1, jk_bs, ro_0 (f := sF σ) K.1.F, jk_bs, rf_many, jk_cI]
  · rw [if_neg c0]
    refine ⟨e', fun d => ?_, e2, e3⟩
    rw [je_169, if_pos R.is, rf_four, jk_cI, jk_if0, if_neg c0, e1, jk_cI]
theorem aa_fetch (A : AWt σ) (k : Int32) : AWt (op_fetch σ k).2 := by
  unfold op_fetch
  split
  · rename_i c0
    obtain ⟨j, hj, rfl⟩ := jp_four_iff.mp c0
    rw [pn_4 hj]
    cases hs : σ.2.2.1 j with
    | none => exact aa_er A
    | some f => exact aa_hand A (A.2.1 j f hj hs)
  · exact aa_er A
theorem aa_drop (A : AWt σ) (k : Int32) : AWt (op_drop σ k).2 := by
  unfold op_drop
  split
  · refine ⟨A.1, fun i f hi e => ?_, A.2.2⟩
    have e : va_up σ.2.2.1 (pn k) none i = some f := e
    unfold va_up at e
    split at e
    · cases e
    · exact A.2.1 i f hi e
  · exact aa_er A
theorem aa_keep (A : AWt σ) (k : Int32) : AWt (op_keep σ k).2 := by
  unfold op_keep
  split
  · refine ⟨A.1, fun i f hi e => ?_, A.2.2⟩
    have e : va_up σ.2.2.1 (pn k) (some (sF σ)) i = some f := e
    unfold va_up at e
    split at e
    · cases e; exact A.W
    · exact A.2.1 i f hi e
  · exact aa_er A
end
