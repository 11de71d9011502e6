/-! The reference: refusals, by hand, minors -/
def rF (h h' : jxH) : Prop := Fr (fun x => 336 ≤ x ∧ x < 451) h h'
section
variable {h h' : jxH} {P : Nat → Prop}
theorem rows_fr {a n b : Nat} (F : Fr P h h') (hP : ¬ P a) (H : m_rows h a n b) : m_rows h' a n b := by
  obtain ⟨Q, e, q⟩ := H
  exact ⟨Q, (F.2.2 a hP).trans e, q⟩
theorem mtold_fr {T : Nat → Int32} (F : Fr P h h') (hP : ¬ P 337) (H : m_told h T) : m_told h' T := by
  obtain ⟨G, e, q⟩ := H
  exact ⟨G, (F.2.2 _ hP).trans e, q⟩
theorem mtr_fr {t : jT} (F : Fr P h h') (hP : ∀ x, 339 ≤ x → x < 382 → ¬ P x) (ht : t.2.1 ≤ 40) (H : m_tr h t) : m_tr h' t := by
  obtain ⟨r, a, b, D, e, q⟩ := H
  refine ⟨rows_fr F (hP _ (by omega) (by omega)) r, fun i hi => ?_, fun i hi => ?_, D, (F.2.2 _ (hP _ (by omega) (by omega))).trans e, q⟩
  · obtain ⟨f, g⟩ := a i hi
    exact ⟨f, ro_fr F (hP _ (by omega) (by omega)) g⟩
  · rcases b i hi with z | z
    · exact Or.inl z
    · exact Or.inr (ro_fr F (hP _ (by omega) (by omega)) z)
theorem msh_fr {sh : jH} (F : Fr P h h') (hP : ∀ x, 430 ≤ x → x < 436 → ¬ P x) (H : m_sh h sh) : m_sh h' sh := by
  obtain ⟨r, ⟨B, e, q⟩, a⟩ := H
  refine ⟨rows_fr F (hP _ (by omega) (by omega)) r, ⟨B, (F.2.2 _ (hP _ (by omega) (by omega))).trans e, q⟩, fun i hi => ?_⟩
  obtain ⟨⟨f, g⟩, k⟩ := a i hi
  exact ⟨⟨f, ro_fr F (hP _ (by omega) (by omega)) g⟩, fun f hf => ro_fr F (hP _ (by omega) (by omega)) (k f hf)⟩
theorem mss_fr {ss : jE} (F : Fr P h h') (hP : ∀ x, 445 ≤ x → x < 449 → ¬ P x) (H : m_ss h ss) : m_ss h' ss := by
  obtain ⟨⟨B, e, q⟩, ⟨B1, e1, q1⟩, ⟨B2, e2, q2⟩, B3, e3⟩ := H
  exact ⟨⟨B, (F.2.2 _ (hP _ (by omega) (by omega))).trans e, q⟩, ⟨B1, (F.2.2 _ (hP _ (by omega) (by omega))).trans e1, q1⟩, ⟨B2, (F.2.2 _ (hP _ (by omega) (by omega))).trans e2, q2⟩, B3, (F.2.2 _ (hP _ (by omega) (by omega))).trans e3⟩
theorem mcrew_fr {a : Nat} {c : jC} (F : Fr P h h') (hP : ¬ P a) (H : m_crew h a c) : m_crew h' a c := by
  obtain ⟨G, e, q⟩ := H
  exact ⟨G, (F.2.2 _ hP).trans e, q⟩
theorem mtape_fr {p : jP} (F : Fr P h h') (hP : ¬ P 398) (H : m_tape h p) : m_tape h' p := by
  obtain ⟨G, e, q⟩ := H
  exact ⟨G, (F.2.2 _ hP).trans e, q⟩
theorem mim_fr {im : jG} (F : Fr P h h') (h1 : ¬ P 449) (h2 : ¬ P 450) (H : m_im h im) : m_im h' im := by
  obtain ⟨⟨f, g⟩, ⟨G, e⟩, k⟩ := H
  exact ⟨⟨f, ro_fr F h1 g⟩, ⟨G, (F.2.2 _ h2).trans e⟩, fun f c e => ⟨ro_fr F h1 (k f c e).1, mcrew_fr F h2 (k f c e).2⟩⟩
def m_scrP (x : Nat) : Prop := (382 ≤ x ∧ x < 398) ∨ (399 ≤ x ∧ x < 430) ∨ x = 436 ∨ (438 ≤ x ∧ x < 445)
theorem mscr_fr (F : Fr P h h') (hP : ∀ x, m_scrP x → ¬ P x) (H : m_scr h) : m_scr h' := by
  obtain ⟨⟨g1, a1⟩, ⟨g2, a2⟩, ⟨g3, a3⟩, a4, a5, ⟨f6, a6⟩, ⟨g7, a7⟩, a8, a9, ⟨g10, a10⟩, a11, a12, ⟨g13, a13⟩, ⟨g14, a14⟩, ⟨g15, a15⟩, a16, a17⟩ := H
  have k : ∀ x, m_scrP x → jx_at h' x = jx_at h x := fun x hx => F.2.2 x (hP x hx)
  refine ⟨⟨g1, (k _ (by unfold m_scrP; omega)).trans a1⟩, ⟨g2, (k _ (by unfold m_scrP; omega)).trans a2⟩, ⟨g3, (k _ (by unfold m_scrP; omega)).trans a3⟩, rows_fr F (hP _ (by unfold m_scrP; omega)) a4, fun i hi => ?_, ⟨f6, ro_fr F (hP _ (by unfold m_scrP; omega)) a6⟩, ⟨g7, (k _ (by unfold m_scrP; omega)).trans a7⟩, rows_fr F (hP _ (by unfold m_scrP; omega)) a8, fun i hi => ?_, ⟨g10, (k _ (by unfold m_scrP; omega)).trans a10⟩, rows_fr F (hP _ (by unfold m_scrP; omega)) a11, fun i hi => ?_, ⟨g13, (k _ (by unfold m_scrP; omega)).trans a13⟩, ⟨g14, (k _ (by unfold m_scrP; omega)).trans a14⟩, ⟨g15, (k _ (by unfold m_scrP; omega)).trans a15⟩, rows_fr F (hP _ (by unfold m_scrP; omega)) a16, fun i hi => ?_⟩
  · obtain ⟨g, e⟩ := a5 i hi; exact ⟨g, (k _ (by unfold m_scrP; omega)).trans e⟩
  · obtain ⟨g, e⟩ := a9 i hi; exact ⟨g, (k _ (by unfold m_scrP; omega)).trans e⟩
  · obtain ⟨g, e⟩ := a12 i hi; exact ⟨g, (k _ (by unfold m_scrP; omega)).trans e⟩
  · obtain ⟨f, g⟩ := a17 i hi; exact ⟨f, ro_fr F (hP _ (by unfold m_scrP; omega)) g⟩
end
section
variable {rc : Nat → Nat × (Nat → Int32)} {h : jxH} {σ : jSt}
theorem RSt.M (R : RSt h σ) : MO h := by
  obtain ⟨⟨a, b, c, d, e, f, g, k, o, -⟩, -⟩ := R
  exact ⟨_, _, _, _, _, _, _, _, _, _, _, _, _, o⟩
theorem RSt.is (R : RSt h σ) : jx_is (jx_at h 336) 12 = true := R.M.is
theorem RSt.F (R : RSt h σ) : ro_at h 338 (sF σ) := R.2.2.1
theorem RSt.told (R : RSt h σ) : m_told h σ.1 := R.2.1
theorem RSt.tr (R : RSt h σ) : m_tr h σ.2.1 := R.2.2.2.1
theorem RSt.scr (R : RSt h σ) : m_scr h := R.2.2.2.2.2.2.2.2.2
theorem RSt.g0 (R : RSt h σ) : jx_gR (jx_at h 336) 12 0 = some 337 := R.M.g 0 337 (by intros; rfl)
theorem RSt.g1 (R : RSt h σ) : jx_gR (jx_at h 336) 12 1 = some 338 := R.M.g1
theorem RSt.g2 (R : RSt h σ) : jx_gR (jx_at h 336) 12 2 = some 339 := R.M.g 2 339 (by intros; rfl)
theorem RSt.g3 (R : RSt h σ) : jx_gR (jx_at h 336) 12 3 = some 381 := R.M.g 3 381 (by intros; rfl)
theorem RSt.g6 (R : RSt h σ) : jx_gR (jx_at h 336) 12 6 = some 382 := R.M.g6
theorem RSt.done (R : RSt h σ) : jx_gI (jx_at h 336) 12 4 = some (Int32.ofNat σ.2.1.1) := by
  obtain ⟨⟨a, b, c, d, e, f, g, k, o, -⟩, -⟩ := R
  rw [o]; rfl
theorem RSt.all (R : RSt h σ) : jx_gI (jx_at h 336) 12 5 = some (Int32.ofNat σ.2.1.2.1) := by
  obtain ⟨⟨a, b, c, d, e, f, g, k, o, -⟩, -⟩ := R
  rw [o]; rfl
/-- error() -/
theorem rr_error (R : RSt h σ) (A : AWt σ) {k : Nat} (h7 : k ≤ 7) {K : Int32} (hK : K = Int32.ofNat k) : ∃ h', (∀ d, jx_C rc (d + 1) 73 [.ref 336, .int K] h = some (some (.int (er σ k).1), h')) ∧ RSt h' (er σ k).2 ∧ rF h h' := by
  subst hK
  obtain ⟨G, e, q⟩ := R.told
  have F : Fr (fun x => x = 337) h (jx_set h 337 (jxI 0 8 (upd G k (G k + 1)))) := Fr.one
  refine ⟨jx_set h 337 (jxI 0 8 (upd G k (G k + 1))), fun d => ?_, ?_, F.mono fun x q => by omega⟩
  · rw [je_73, if_pos R.is, R.g0, jk_bs, e, jk_aI (by omega) (by decide), jk_bs, jk_sI (by omega) (by decide)]
    rfl
  · obtain ⟨⟨a, b, c, d, e, f, g, k', o, o'⟩, -, r2, r3, r4, r5, r6, r7, r8, r9⟩ := R
    refine ⟨⟨a, b, c, d, e, f, g, k', (F.2.2 _ (by decide)).trans o, o'⟩, ⟨_, jk_at_self .., fun j hj => ?_⟩, ro_fr F (by decide) r2, mtr_fr F (fun x _ _ => by omega) A.tr.2.1 r3, msh_fr F (fun x _ _ => by omega) r4, mss_fr F (fun x _ _ => by omega) r5, mcrew_fr F (by decide) r6, mim_fr F (by decide) (by decide) r7, mtape_fr F (by decide) r8, mscr_fr F (fun x q => by unfold m_scrP at q; omega) r9⟩
    show upd G k (G k + 1) j = upd σ.1 k (σ.1 k + 1) j
    unfold upd
    split
    · rename_i z; subst z; rw [q j hj]
    · exact q j hj
theorem rr_orOver (R : RSt h σ) (A : AWt σ) (x : Int64) : ∃ h', (∀ d, jx_C rc (d + 2) 119 [.ref 336, .long x] h = some (some (.int (op_tell σ x).1), h')) ∧ RSt h' (op_tell σ x).2 ∧ rF h h' := by
  obtain ⟨h', r1, r2, r3⟩ := rr_error (rc := rc) R A (k := 5) (by decide) (K := 5) rfl
  unfold op_tell
  by_cases c1 : x < -1073741824
  · rw [if_pos c1]
    refine ⟨h', fun d => ?_, r2, r3⟩
    rw [je_119, if_pos R.is, rf_in, jk_cI, jk_if0, show jp_bt x (-1073741824) 1073741823 = false by unfold jp_bt; rw [if_pos c1], if_neg (by decide), r1, jk_cI]
  · rw [if_neg c1]
    by_cases c2 : 1073741823 < x
    · rw [if_pos c2]
      refine ⟨h', fun d => ?_, r2, r3⟩
      rw [je_119, if_pos R.is, rf_in, jk_cI, jk_if0, show jp_bt x (-1073741824) 1073741823 = false by unfold jp_bt; rw [if_neg c1, if_pos c2], if_neg (by decide), r1, jk_cI]
    · rw [if_neg c2]
      refine ⟨h, fun d => ?_, R, Fr.rfl⟩
      rw [je_119, if_pos R.is, rf_in, jk_cI, jk_if0, show jp_bt x (-1073741824) 1073741823 = true by unfold jp_bt; rw [if_neg c1, if_neg c2], if_pos rfl]
theorem rr_isVertex (R : RSt h σ) (p : Int32) (d : Nat) : jx_C rc (d + 3) 79 [.ref 336, .int p] h = some (some (.int (jk_b (jF_has (sF σ) p))), h) := by
  rw [je_79, if_pos R.is, R.g1, jk_bs, rf_isThere R.F, jk_cI, if_pos (jk_bb _)]
/-- byHand() -/
theorem rr_byHand (R : RSt h σ) (A : AWt σ) : ∃ h', (∀ d, jx_C rc (d + 1) 100 [.ref 336] h = some (none, h')) ∧ RSt h' (hand σ (sF σ)) ∧ rF h h' := by
  obtain ⟨⟨a, b, c, d, e, f, g, k', o, o'⟩, r1, r2, r3, r4, r5, r6, r7, r8, r9⟩ := id R
  have F : Fr (fun x => x = 336) h (jx_set h 336 (m_obj 0 0 (Int32.ofNat σ.2.2.2.2.2.2.1) a b c d (Int32.ofNat σ.2.2.2.2.1.1) e f g k' (jk_b σ.2.2.2.2.2.1.isSome))) := Fr.one
  obtain ⟨t1, t2, t3, D, t4, t5⟩ := mtr_fr F (fun x _ _ => by omega) A.tr.2.1 r3
  refine ⟨_, fun dd => ?_, ⟨⟨a, b, c, d, e, f, g, k', jk_at_self .., o'⟩, mtold_fr F (by decide) r1, ro_fr F (by decide) r2, ⟨t1, t2, fun i _ => Or.inl rfl, D, t4, fun i hi => absurd hi (Nat.not_lt_zero i)⟩, msh_fr F (fun x _ _ => by omega) r4, mss_fr F (fun x _ _ => by omega) r5, mcrew_fr F (by decide) r6, mim_fr F (by decide) (by decide) r7, mtape_fr F (by decide) r8, mscr_fr F (fun x q => by unfold m_scrP at q; omega) r9⟩, F.mono fun x q => by omega⟩
  rw [je_100, if_pos R.is, o, show jx_pF (m_obj (Int32.ofNat σ.2.1.1) (Int32.ofNat σ.2.1.2.1) (Int32.ofNat σ.2.2.2.2.2.2.1) a b c d (Int32.ofNat σ.2.2.2.2.1.1) e f g k' (jk_b σ.2.2.2.2.2.1.isSome)) 12 4 (.int 0) = some (m_obj 0 (Int32.ofNat σ.2.1.2.1) (Int32.ofNat σ.2.2.2.2.2.2.1) a b c d (Int32.ofNat σ.2.2.2.2.1.1) e f g k' (jk_b σ.2.2.2.2.2.1.isSome)) from rfl, jk_bs, jk_at_self, show jx_pF (m_obj 0 (Int32.ofNat σ.2.1.2.1) (Int32.ofNat σ.2.2.2.2.2.2.1) a b c d (Int32.ofNat σ.2.2.2.2.1.1) e f g k' (jk_b σ.2.2.2.2.2.1.isSome)) 12 5 (.int 0) = some (m_obj 0 0 (Int32.ofNat σ.2.2.2.2.2.2.1) a b c d (Int32.ofNat σ.2.2.2.2.1.1) e f g k' (jk_b σ.2.2.2.2.2.1.isSome)) from rfl, jk_bs, jk_set_set]
  rfl
theorem rr_F {g g' : jF} {h' : jxH} (R : RSt h (hand σ g)) (F : Fr (fun x => x = 338) h h') (G : ro_at h' 338 g') : RSt h' (hand σ g') := by
  obtain ⟨⟨a, b, c, d, e, f, gg, k', o, o'⟩, r1, r2, ⟨t1, t2, t3, D, t4, t5⟩, r4, r5, r6, r7, r8, r9⟩ := R
  refine ⟨⟨a, b, c, d, e, f, gg, k', (F.2.2 _ (by decide)).trans o, o'⟩, mtold_fr F (by decide) r1, G, ⟨rows_fr F (by decide) t1, fun i hi => ?_, fun i _ => Or.inl rfl, D, (F.2.2 _ (by decide)).trans t4, fun i hi => absurd hi (Nat.not_lt_zero i)⟩, msh_fr F (fun x _ _ => by omega) r4, mss_fr F (fun x _ _ => by omega) r5, mcrew_fr F (by decide) r6, mim_fr F (by decide) (by decide) r7, mtape_fr F (by decide) r8, mscr_fr F (fun x q => by unfold m_scrP at q; omega) r9⟩
  obtain ⟨f, z⟩ := t2 i hi
  exact ⟨f, ro_fr F (by omega) z⟩
theorem rF.one {h' : jxH} {k : Nat} (hk : 336 ≤ k) (hk2 : k < 451) (F : Fr (fun x => x = k) h h') : rF h h' := F.mono fun x q => by omega
theorem rr_vertex (R : RSt h σ) (A : AWt σ) (w : Int32) : ∃ h', (∀ d, jx_C rc (d + 20) 107 [.ref 336, .int w] h = some (some (.int (op_vertex σ w).1), h')) ∧ RSt h' (op_vertex σ w).2 ∧ rF h h' := by
  unfold op_vertex
  by_cases c1 : jp_wt w = true
  · rw [if_pos c1]
    have b12 := bc_le (sF σ).2.2
    by_cases c2 : 12 ≤ bc (sF σ).2.2
    · rw [if_pos c2]
      obtain ⟨h', r1, r2, r3⟩ := rr_error (rc := rc) R A (k := 4) (by decide) (K := 4) rfl
      refine ⟨h', fun d => ?_, r2, r3⟩
      rw [je_107, if_pos R.is, rf_isWeight, jk_cI, jk_if0, if_pos c1, R.g1, jk_bs, ro_0 R.F, jk_bs, rf_many, jk_cI, if_pos (by rw [show (12 : Int32) = Int32.ofNat 12 from rfl, jk_inj (by omega) (by decide)]; omega), r1, jk_cI]
    · rw [if_neg c2]
      obtain ⟨c, hc⟩ := bc_free (x := (sF σ).2.2) (by omega)
      obtain ⟨k1, k2, -⟩ := lo_not hc
      rw [jf_free_of hc]
      obtain ⟨h1, r1, r2, r3⟩ := rr_byHand (rc := rc) R A
      obtain ⟨h2, s1, s2, s3⟩ := rf_comes (rc := rc) r2.F hc (A.B.abs k1 k2).2 w
      refine ⟨h2, fun d => ?_, rr_F r2 s3 s2, r3.trans (rF.one (by decide) (by decide) s3)⟩
      rw [je_107, if_pos R.is, rf_isWeight, jk_cI, jk_if0, if_pos c1, R.g1, jk_bs, ro_0 R.F, jk_bs, rf_many, jk_cI, if_neg (by rw [show (12 : Int32) = Int32.ofNat 12 from rfl, jk_inj (by omega) (by decide)]; omega), r1, jk_cV, r2.g1, jk_bs, s1, jk_cI]
  · rw [if_neg c1]
    obtain ⟨h', r1, r2, r3⟩ := rr_error (rc := rc) R A (k := 1) (by decide) (K := 1) rfl
    refine ⟨h', fun d => ?_, r2, r3⟩
    rw [je_107, if_pos R.is, rf_isWeight, jk_cI, jk_if0, if_neg c1, r1, jk_cI]
theorem rr_weigh (R : RSt h σ) (A : AWt σ) (p w : Int32) : ∃ h', (∀ d, jx_C rc (d + 20) 108 [.ref 336, .int p, .int w] h = some (some (.int (op_weigh σ p w).1), h')) ∧ RSt h' (op_weigh σ p w).2 ∧ rF h h' := by
  unfold op_weigh
  obtain ⟨e', e1, e2, e3⟩ := rr_error (rc := rc) R A (k := 1) (by decide) (K := 1) rfl
  by_cases c0 : jF_has (sF σ) p = true
  · rw [if_pos c0]
    by_cases c1 : jp_wt w = true
    · rw [if_pos c1]
      obtain ⟨k, hk, rfl, hb⟩ := jF_has_iff.mp c0
      rw [pn_of hk]
      obtain ⟨h1, r1, r2, r3⟩ := rr_byHand (rc := rc) R A
      obtain ⟨e, i1, j1⟩ := ro_sw r2.F hk w
      refine ⟨_, fun d => ?_, rr_F r2 Fr.one j1, r3.trans (rF.one (by decide) (by decide) Fr.one)⟩
      rw [je_108, if_pos R.is, rr_isVertex R, jk_cI, jk_if0, if_pos c0, rf_isWeight, jk_cI, jk_if0, if_pos c1, r1, jk_cV, r2.g1, jk_bs, ro_w r2.F hk, jk_bs, jk_bs, i1]
      rfl
    · rw [if_neg c1]
      refine ⟨e', fun d => ?_, e2, e3⟩
      rw [je_108, if_pos R.is, rr_isVertex R, jk_cI, jk_if0, if_pos c0, rf_isWeight, jk_cI, jk_if0, if_neg c1, e1, jk_cI]
  · rw [if_neg c0]
    refine ⟨e', fun d => ?_, e2, e3⟩
    rw [je_108, if_pos R.is, rr_isVertex R, jk_cI, jk_if0, if_neg c0, e1, jk_cI]
theorem rr_take (R : RSt h σ) (A : AWt σ) (p : Int32) : ∃ h', (∀ d, jx_C rc (d + 20) 111 [.ref 336, .int p] h = some (some (.int (op_take σ p).1), h')) ∧ RSt h' (op_take σ p).2 ∧ rF h h' := by
  unfold op_take
  by_cases c0 : jF_has (sF σ) p = true
  · rw [if_pos c0]
    obtain ⟨k, hk, rfl, hb⟩ := jF_has_iff.mp c0
    rw [pn_of hk]
    obtain ⟨h1, r1, r2, r3⟩ := rr_byHand (rc := rc) R A
    obtain ⟨h2, s1, s2, s3⟩ := rf_leaves (rc := rc) r2.F hk
    refine ⟨h2, fun d => ?_, rr_F r2 s3 s2, r3.trans (rF.one (by decide) (by decide) s3)⟩
    rw [je_111, if_pos R.is, rr_isVertex R, jk_cI, jk_if0, if_pos c0, r1, jk_cV, r2.g1, jk_bs, ro_w r2.F hk, jk_bs, jk_bs, s1, jk_cV]
    rfl
  · rw [if_neg c0]
    obtain ⟨e', e1, e2, e3⟩ := rr_error (rc := rc) R A (k := 1) (by decide) (K := 1) rfl
    refine ⟨e', fun d => ?_, e2, e3⟩
    rw [je_111, if_pos R.is, rr_isVertex R, jk_cI, jk_if0, if_neg c0, e1, jk_cI]
theorem rr_cut (R : RSt h σ) (A : AWt σ) (p q : Int32) : ∃ h', (∀ d, jx_C rc (d + 20) 110 [.ref 336, .int p, .int q] h = some (some (.int (op_cut σ p q).1), h')) ∧ RSt h' (op_cut σ p q).2 ∧ rF h h' := by
  unfold op_cut
  obtain ⟨e', e1, e2, e3⟩ := rr_error (rc := rc) R A (k := 1) (by decide) (K := 1) rfl
  by_cases c0 : jF_has (sF σ) p = true
  · rw [if_pos c0]
    by_cases c1 : jF_has (sF σ) q = true
    · rw [if_pos c1]
      obtain ⟨k, hk, rfl, hb⟩ := jF_has_iff.mp c0
      obtain ⟨j, hj, rfl, hb'⟩ := jF_has_iff.mp c1
      rw [pn_of hk, pn_of hj]
      by_cases c2 : bt ((sF σ).2.1 k) j = true
      · rw [if_pos c2]
        obtain ⟨h1, r1, r2, r3⟩ := rr_byHand (rc := rc) R A
        obtain ⟨h2, s1, s2, s3⟩ := rf_cuts (rc := rc) r2.F hk hj
        have R2 := rr_F r2 s3 s2
        refine ⟨h2, fun d => ?_, R2, r3.trans (rF.one (by decide) (by decide) s3)⟩
        rw [je_110, if_pos R.is, rr_isVertex R, jk_cI, jk_if0, if_pos c0, rr_isVertex R, jk_cI, jk_if0, if_pos c1, R.g1, jk_bs, ro_n R.F hk, jk_bs, rf_has _ _ (by omega), jk_cI, jk_if0, if_pos c2, r1, jk_cV, r2.g1, jk_bs, s1, jk_cV, R2.g1, jk_bs, rf_trees s2 (jf_W_part A.W hk hj), jk_cI]
        rfl
      · rw [if_neg c2]
        obtain ⟨e', e1, e2, e3⟩ := rr_error (rc := rc) R A (k := 2) (by decide) (K := 2) rfl
        refine ⟨e', fun d => ?_, e2, e3⟩
        rw [je_110, if_pos R.is, rr_isVertex R, jk_cI, jk_if0, if_pos c0, rr_isVertex R, jk_cI, jk_if0, if_pos c1, R.g1, jk_bs, ro_n R.F hk, jk_bs, rf_has _ _ (by omega), jk_cI, jk_if0, if_neg c2, e1, jk_cI]
    · rw [if_neg c1]
      refine ⟨e', fun d => ?_, e2, e3⟩
      rw [je_110, if_pos R.is, rr_isVertex R, jk_cI, jk_if0, if_pos c0, rr_isVertex R, jk_cI, jk_if0, if_neg c1, e1, jk_cI]
  · rw [if_neg c0]
    refine ⟨e', fun d => ?_, e2, e3⟩
    rw [je_110, if_pos R.is, rr_isVertex R, jk_cI, jk_if0, if_neg c0, e1, jk_cI]
theorem rr_tie (R : RSt h σ) (A : AWt σ) (p q : Int32) : ∃ h', (∀ d, jx_C rc (d + 20) 109 [.ref 336, .int p, .int q] h = some (some (.int (op_tie σ p q).1), h')) ∧ RSt h' (op_tie σ p q).2 ∧ rF h h' := by
  unfold op_tie
  obtain ⟨e', e1, e2, e3⟩ := rr_error (rc := rc) R A (k := 1) (by decide) (K := 1) rfl
  by_cases c0 : jF_has (sF σ) p = true
  · rw [if_pos c0]
    by_cases c1 : jF_has (sF σ) q = true
    · rw [if_pos c1]
      obtain ⟨k, hk, rfl, hb⟩ := jF_has_iff.mp c0
      obtain ⟨j, hj, rfl, hb'⟩ := jF_has_iff.mp c1
      rw [pn_of hk, pn_of hj]
      by_cases c2 : bt (jt_T (sF σ) k) j = true
      · rw [if_pos c2]
        obtain ⟨e', e1, e2, e3⟩ := rr_error (rc := rc) R A (k := 3) (by decide) (K := 3) rfl
        refine ⟨e', fun d => ?_, e2, e3⟩
        rw [je_109, if_pos R.is, rr_isVertex R, jk_cI, jk_if0, if_pos c0, rr_isVertex R, jk_cI, jk_if0, if_pos c1, R.g1, jk_bs, rf_treeOf R.F A.B.n hk, jk_cI, rf_has _ _ (by omega), jk_cI, jk_if0, if_pos c2, e1, jk_cI]
      · rw [if_neg c2]
        obtain ⟨h1, r1, r2, r3⟩ := rr_byHand (rc := rc) R A
        obtain ⟨h2, s1, s2, s3⟩ := rf_ties (rc := rc) r2.F hk hj
        have R2 := rr_F r2 s3 s2
        have W2 : jf_W (jf_join (sF σ) k j) := jf_W_tie A.W hk hj hb hb' (T := jt_T (sF σ) k) (fun x y hx hy h => jt_T_edge A.B hk hx hy h) (jt_T_self _ hk) (by simpa using c2)
        refine ⟨h2, fun d => ?_, R2, r3.trans (rF.one (by decide) (by decide) s3)⟩
        rw [je_109, if_pos R.is, rr_isVertex R, jk_cI, jk_if0, if_pos c0, rr_isVertex R, jk_cI, jk_if0, if_pos c1, R.g1, jk_bs, rf_treeOf R.F A.B.n hk, jk_cI, rf_has _ _ (by omega), jk_cI, jk_if0, if_neg c2, r1, jk_cV, r2.g1, jk_bs, s1, jk_cV, R2.g1, jk_bs, rf_trees s2 W2, jk_cI]
        rfl
    · rw [if_neg c1]
      refine ⟨e', fun d => ?_, e2, e3⟩
      rw [je_109, if_pos R.is, rr_isVertex R, jk_cI, jk_if0, if_pos c0, rr_isVertex R, jk_cI, jk_if0, if_neg c1, e1, jk_cI]
  · rw [if_neg c0]
    refine ⟨e', fun d => ?_, e2, e3⟩
    rw [je_109, if_pos R.is, rr_isVertex R, jk_cI, jk_if0, if_neg c0, e1, jk_cI]
end
