/-! ALIKE: the reference: layDue, isDue -/
/-- what is due is laid -/
def du_I (h : jxH) (D : List Nat) : Prop := tl_at h 436 D ∧ jx_gI (jx_at h 336) 12 25 = some (Int32.ofNat D.length)
section
variable {rc : Nat → Nat × (Nat → Int32)} {h h' h0 : jxH} {b : Nat} {f g : jF} {σ : jSt} {P : Nat → Prop} {T D : List Nat}
theorem RSt.g24 (R : RSt h σ) : jx_gR (jx_at h 336) 12 24 = some 436 := R.M.g 24 436 (by intros; rfl)
theorem RSt.g20 (R : RSt h σ) : jx_gR (jx_at h 336) 12 20 = some 429 := R.M.g 20 429 (by intros; rfl)
theorem RSt.row436 (R : RSt h σ) : ∃ g, jx_at h 436 = jxI 0 64 g := by
  obtain ⟨-, -, -, -, -, -, -, -, -, -, -, -, -, -, a15, -⟩ := R.scr
  exact a15
theorem RSt.due (R : RSt h σ) (A : AWt σ) (F : Fr (fun x => x = 436) h h') (K : ∃ g, jx_at h' 436 = jxI 0 64 g) : RSt h' σ ∧ rF h h' := by
  refine ⟨RS_scr R A F (fun x hx => by unfold m_scrP; omega) ?_, rF.one (by decide) (by decide) F⟩
  have n := fun x hx => F.2.2 x hx
  obtain ⟨⟨g1, a1⟩, ⟨g2, a2⟩, ⟨g3, a3⟩, ⟨Q4, a4, b4⟩, a5, ⟨g6, a6⟩, ⟨g7, a7⟩, ⟨Q8, a8, b8⟩, a9, ⟨g10, a10⟩, ⟨Q11, a11, b11⟩, a12, ⟨g13, a13⟩, ⟨g14, a14⟩, -, ⟨Q16, a16, b16⟩, a17⟩ := R.scr
  refine ⟨⟨g1, (n _ (by omega)).trans a1⟩, ⟨g2, (n _ (by omega)).trans a2⟩, ⟨g3, (n _ (by omega)).trans a3⟩, ⟨Q4, (n _ (by omega)).trans a4, b4⟩, fun i hi => ?_, ⟨g6, ro_fr F (by omega) a6⟩, ⟨g7, (n _ (by omega)).trans a7⟩, ⟨Q8, (n _ (by omega)).trans a8, b8⟩, fun i hi => ?_, ⟨g10, (n _ (by omega)).trans a10⟩, ⟨Q11, (n _ (by omega)).trans a11, b11⟩, fun i hi => ?_, ⟨g13, (n _ (by omega)).trans a13⟩, ⟨g14, (n _ (by omega)).trans a14⟩, K, ⟨Q16, (n _ (by omega)).trans a16, b16⟩, fun i hi => ?_⟩
  · obtain ⟨g, e⟩ := a5 i hi; exact ⟨g, (n _ (by omega)).trans e⟩
  · obtain ⟨g, e⟩ := a9 i hi; exact ⟨g, (n _ (by omega)).trans e⟩
  · obtain ⟨g, e⟩ := a12 i hi; exact ⟨g, (n _ (by omega)).trans e⟩
  · obtain ⟨g, e⟩ := a17 i hi; exact ⟨g, ro_fr F (by omega) e⟩
/-- a text is laid in the state -/
theorem rr_text (R : RSt h σ) (A : AWt σ) (W : jf_W f) (hb : b < 402 ∨ 430 ≤ b) (hb2 : b ≠ 336) (H : ro_at h b f) : ∃ h', (∀ d, jx_C rc (d + 17) 166 [.ref 336, .ref b] h = some (none, h')) ∧ RSt h' σ ∧ rF h h' ∧ tl_at h' 429 (TT f) ∧ jx_gI (jx_at h' 336) 12 21 = some (Int32.ofNat (TT f).length) ∧ jx_gI (jx_at h' 336) 12 25 = jx_gI (jx_at h 336) 12 25 ∧ Fr (fun x => x = 336 ∨ (402 ≤ x ∧ x < 430)) h h' := by
  obtain ⟨L, g429⟩ := R.ly
  obtain ⟨h1, r1, r2, r3, r4, r5⟩ := rl_text (rc := rc) W hb hb2 L g429 H
  obtain ⟨R1, F1⟩ := R.lied A r5 r2 (by obtain ⟨g, e, -⟩ := r4; exact ⟨g, e⟩) r3
  refine ⟨h1, r1, R1, F1, r4, r3.g21, ?_, r5⟩
  obtain ⟨c1, c2, c3, c4, c5, c6, c7, c8, c9, c10, c11, c12, c13, oe, oe'⟩ := r3
  rw [oe, oe']; rfl
theorem rr_due_l (A : AWt σ) (lT : T.length ≤ 60) : ∀ (m k : Nat) (h : jxH), k + m = T.length → RSt h σ → jx_gI (jx_at h 336) 12 25 = some (Int32.ofNat T.length) → tl_at h 429 T → tl_at h 436 (T.take k) → ∃ h', (∀ d, jb_172 rc d 9 [(0, .ref 336), (2, .int (Int32.ofNat k))] [] h = some (none, h')) ∧ RSt h' σ ∧ rF h h' ∧ du_I h' T ∧ Fr (fun x => x = 436) h h'
  | 0, k, h, e, R, O, H, K => by
    rw [List.take_of_length_le (by omega)] at K
    refine ⟨h, fun d => ?_, R, Fr.rfl, ⟨K, O⟩, Fr.rfl⟩
    rw [je_172_9, O, jk_bs, if_pos (by rw [jk_le (by omega) (by omega)]; omega)]
  | m + 1, k, h, e, R, O, H, K => by
    have hk : k < T.length := by omega
    have lt : (T.take k).length = k := by rw [List.length_take]; omega
    obtain ⟨x, p1, p2⟩ := tl_put K (by omega) (T.getD k 0)
    rw [take_snoc hk] at p2
    rw [lt] at p1
    have F1 : Fr (fun x => x = 436) h (jx_set h 436 x) := Fr.one
    obtain ⟨R1, G1⟩ := R.due A F1 (by obtain ⟨g, e, -⟩ := p2; exact ⟨g, e⟩)
    obtain ⟨h1, t1, t2, t3, t4, t5⟩ := rr_due_l A lT m (k + 1) _ (by omega) R1 (by rw [F1.2.2 _ (by omega)]; exact O) (tl_fr F1 (by omega) H) p2
    refine ⟨h1, fun d => ?_, t2, G1.trans t3, t4, F1.trans t5⟩
    obtain ⟨g, e1, q⟩ := id H
    rw [je_172_9, O, jk_bs, if_neg (by rw [jk_le (by omega) (by omega)]; omega), R.g24, jk_bs, R.g20, jk_bs, e1, jk_aI (by omega) (by decide), jk_bs, q k hk, p1, jk_bs, jk_succ]
    exact t1 d
/-- layDue() -/
theorem rr_due (R : RSt h σ) (A : AWt σ) (V : jf_W g) (hb : b < 402 ∨ 430 ≤ b) (hb2 : b ≠ 336) (H : ro_at h b g) : ∃ h', (∀ d, jx_C rc (d + 18) 172 [.ref 336, .ref b] h = some (none, h')) ∧ RSt h' σ ∧ rF h h' ∧ du_I h' (TT g) ∧ Fr (fun x => x = 336 ∨ (402 ≤ x ∧ x < 430) ∨ x = 436) h h' := by
  obtain ⟨h1, r1, R1, F1, r4, r5, -, r6⟩ := rr_text (rc := rc) R A V hb hb2 H
  have l60 := (TT_g V).1
  obtain ⟨⟨at_, wrong, texted, dues, fl, fm, ff, kh, o, o'⟩, -⟩ := id R1
  have F2 : Fr (fun x => x = 336) h1 (jx_set h1 336 (m_obj (Int32.ofNat σ.2.1.1) (Int32.ofNat σ.2.1.2.1) (Int32.ofNat (sP σ).1) at_ wrong texted (Int32.ofNat (TT g).length) (Int32.ofNat (sC σ).1) fl fm ff kh (jk_b σ.2.2.2.2.2.1.isSome))) := Fr.one
  obtain ⟨R2, G2⟩ := R1.same A F2 ⟨at_, wrong, texted, Int32.ofNat (TT g).length, fl, fm, ff, kh, jk_at_self .., o'⟩
  obtain ⟨x, ex⟩ := R2.row436
  obtain ⟨h3, t1, t2, t3, t4, t5⟩ := rr_due_l (rc := rc) A l60 (TT g).length 0 _ (by omega) R2 (by rw [jk_at_self]; rfl) (tl_fr F2 (by omega) r4) ⟨x, ex, fun i hi => by simp at hi⟩
  refine ⟨h3, fun d => ?_, t2, (F1.trans G2).trans t3, t4, ((r6.mono fun x hx => by omega).trans (F2.mono fun x hx => by omega)).trans (t5.mono fun x hx => by omega)⟩
  have p : jx_pF (jx_at h1 336) 12 25 (.int (Int32.ofNat (TT g).length)) = some (m_obj (Int32.ofNat σ.2.1.1) (Int32.ofNat σ.2.1.2.1) (Int32.ofNat (sP σ).1) at_ wrong texted (Int32.ofNat (TT g).length) (Int32.ofNat (sC σ).1) fl fm ff kh (jk_b σ.2.2.2.2.2.1.isSome)) := by
    rw [o]; rfl
  rw [je_172, if_pos R.is, r1, jk_cV, r5, jk_bs, p, jk_bs]
  exact t1 _
/-- the comparison of two rows -/
theorem rr_cmp_l (R : RSt h σ) (I : du_I h D) (H : tl_at h 429 T) (hT : tx_g T) (hD : tx_g D) (e : T.length = D.length) (d : Nat) : ∀ (m k : Nat), k + m = D.length → jb_173 rc d 14 [(0, .ref 336), (2, .int 1), (3, .int (Int32.ofNat k))] [] h = some (some (.int (if T.drop k = D.drop k then 1 else 0)), h)
  | 0, k, ek => by
    have l := hD.1
    rw [je_173_14, I.2, jk_bs, if_pos (by rw [jk_le (by omega) (by omega)]; omega), if_pos jk_b1, List.drop_eq_nil_of_le (by omega), List.drop_eq_nil_of_le (by omega), if_pos rfl]
  | m + 1, k, ek => by
    have l := hD.1
    have hk : k < D.length := by omega
    obtain ⟨g1, e1, q1⟩ := id H
    obtain ⟨⟨g2, e2, q2⟩, o⟩ := id I
    have b1 := tx_mem hT.2 (show k < T.length by omega)
    have b2 := tx_mem hD.2 hk
    rw [je_173_14, o, jk_bs, if_neg (by rw [jk_le (by omega) (by omega)]; omega), if_neg (by decide), R.g20, jk_bs, e1, jk_aI (by omega) (by decide), jk_bs, R.g24, jk_bs, e2, jk_aI (by omega) (by decide), jk_bs, q1 k (by omega), q2 k hk, List.drop_eq_getElem_cons (show k < T.length by omega), List.drop_eq_getElem_cons hk]
    by_cases c : T.getD k 0 = D.getD k 0
    · have c' : T[k] = D[k] := by rw [← getD_get (show k < T.length by omega), ← getD_get hk]; exact c
      rw [if_pos (by rw [c]), jk_succ, rr_cmp_l R I H hT hD e d m (k + 1) (by omega), c']
      by_cases z : T.drop (k + 1) = D.drop (k + 1)
      · rw [if_pos z, if_pos (by rw [z])]
      · rw [if_neg z, if_neg (fun w => z (List.cons.inj w).2)]
    · have c' : ¬ T[k] = D[k] := by rw [← getD_get (show k < T.length by omega), ← getD_get hk]; exact c
      rw [if_neg (by rw [jk_inj (by omega) (by omega)]; exact c), if_neg (fun w => c' (List.cons.inj w).1), je_173_14, o, jk_bs, jk_succ]
      by_cases z : Int32.ofNat D.length ≤ Int32.ofNat (k + 1)
      · rw [if_pos z, if_pos jk_r0']
      · rw [if_neg z, if_pos rfl, if_pos jk_r0']
/-- isDue() -/
theorem rr_isDue (R : RSt h σ) (A : AWt σ) (W : jf_W f) (V : jf_W g) (hb : b < 402 ∨ 430 ≤ b) (hb2 : b ≠ 336) (H : ro_at h b f) (I : du_I h (TT g)) : ∃ h', (∀ d, jx_C rc (d + 18) 173 [.ref 336, .ref b] h = some (some (.int (if TT f = TT g then 1 else 0)), h')) ∧ RSt h' σ ∧ rF h h' ∧ du_I h' (TT g) ∧ Fr (fun x => x = 336 ∨ (402 ≤ x ∧ x < 430)) h h' := by
  obtain ⟨h1, r1, R1, F1, r4, r5, r6, r7⟩ := rr_text (rc := rc) R A W hb hb2 H
  have l1 := (TT_g W).1
  have l2 := (TT_g V).1
  have I1 : du_I h1 (TT g) := ⟨tl_fr r7 (by omega) I.1, r6.trans I.2⟩
  refine ⟨h1, fun d => ?_, R1, F1, I1, r7⟩
  rw [je_173, if_pos R.is, r1, jk_cV, r5, jk_bs, I1.2, jk_bs]
  by_cases c : (TT f).length = (TT g).length
  · rw [if_pos (by rw [c])]
    exact rr_cmp_l R1 I1 r4 (TT_g W) (TT_g V) c _ (TT g).length 0 (by omega)
  · rw [if_neg (by rw [jk_inj (by omega) (by omega)]; exact c), if_neg (fun z => c (by rw [z])), je_173_14, I1.2, jk_bs]
    by_cases z : Int32.ofNat (TT g).length ≤ 0
    · rw [if_pos z, if_pos jk_r0']
    · rw [if_neg z, if_pos rfl, if_pos jk_r0']
theorem rr_alike (R : RSt h σ) (A : AWt σ) (k : Int32) : ∃ h', (∀ d, jx_C rc (d + 20) 174 [.ref 336, .int k] h = some (some (.int (op_alike σ k).1), h')) ∧ RSt h' (op_alike σ k).2 ∧ rF h h' := by
  unfold op_alike
  obtain ⟨e', e1, e2, e3⟩ := rr_error (rc := rc) R A (k := 1) (by decide) (K := 1) rfl
  by_cases c0 : jp_four k = true
  · rw [if_pos c0]
    obtain ⟨j, hj, rfl⟩ := jp_four_iff.mp c0
    rw [pn_4 hj]
    obtain ⟨r, ⟨B, b1, b2⟩, a⟩ := R.sh
    have st : ∀ d, jx_C rc (d + 20) 174 [.ref 336, .int (Int32.ofNat j)] h = _ := fun d => by
      rw [je_174, if_pos R.is, rf_four, jk_cI, jk_if0, if_pos c0, R.g23, jk_bs, b1, jk_aI hj (by decide), jk_bs, b2 j hj, jk_if0]
    cases hs : σ.2.2.1 j with
    | none =>
      obtain ⟨f', f1, f2, f3⟩ := rr_error (rc := rc) R A (k := 7) (by decide) (K := 7) rfl
      refine ⟨f', fun d => ?_, f2, f3⟩
      rw [st d, hs, if_neg (by decide), f1, jk_cI]
    | some g =>
      have V := A.2.1 j g hj hs
      obtain ⟨h1, s1, R1, F1, I1, -⟩ := rr_due (rc := rc) (b := 431 + j) R A V (by omega) (by omega) ((a j hj).2 g hs)
      obtain ⟨h2, t1, R2, F2, -⟩ := rr_isDue (rc := rc) (b := 338) R1 A A.W V (by omega) (by omega) R1.F I1
      refine ⟨h2, fun d => ?_, R2, F1.trans F2⟩
      rw [st d, hs, if_pos (show (some g).isSome = true from rfl), R.g22, jk_bs, m_rows_q r hj (by decide), jk_bs, jk_mos, s1 (d + 1), jk_cV, R1.g1, jk_bs, t1 (d + 1), jk_cI]
      by_cases z : TT (sF σ) = TT g
      · rw [if_pos z, if_neg (by decide)]
        show _ = some (some (Value.int (if TT (sF σ) = TT g then 1 else 0)), _)
        rw [if_pos z]
      · rw [if_neg z, if_pos rfl]
        show _ = some (some (Value.int (if TT (sF σ) = TT g then 1 else 0)), _)
        rw [if_neg z]
  · rw [if_neg c0]
    refine ⟨e', fun d => ?_, e2, e3⟩
    rw [je_174, if_pos R.is, rf_four, jk_cI, jk_if0, if_neg c0, e1, jk_cI]
end
