/-! The reference: undo, redo, move -/
section
variable {rc : Nat → Nat × (Nat → Int32)} {h h' : jxH} {P : Nat → Prop} {σ : jSt} {f : jF}
theorem m_rows_q {a n b i : Nat} (H : m_rows h a n b) (hi : i < n) (hn : n < 2 ^ 31) : jx_aQ (jx_at h a) 8 (Int32.ofNat i) = some (some (b + i)) := by
  obtain ⟨Q, e, q⟩ := H
  rw [e, jk_aQ hi hn, q i hi]
def m_trP (x : Nat) : Prop := x = 336 ∨ x = 338 ∨ (339 ≤ x ∧ x < 382)
/-- the reference's state, but for its trail -/
theorem rr_trF {t' : jT} (R : RSt h σ) (F : Fr P h h') (hP : ∀ x, P x → m_trP x) (hO : ∃ a b c d e f g k : Int32, jx_at h' 336 = m_obj (Int32.ofNat t'.1) (Int32.ofNat t'.2.1) (Int32.ofNat σ.2.2.2.2.2.2.1) a b c d (Int32.ofNat σ.2.2.2.2.1.1) e f g k (jk_b σ.2.2.2.2.2.1.isSome) ∧ (σ.2.2.2.2.2.1.isSome = true → k = Int32.ofNat (im_n σ.2.2.2.2.2.1))) (G : ro_at h' 338 (tr_F t')) (S : m_tr h' t') : RSt h' (σ.1, t', σ.2.2) ∧ rF h h' := by
  have n : ∀ x, ¬ m_trP x → ¬ P x := fun x a b => a (hP x b)
  obtain ⟨-, r1, -, -, r4, r5, r6, r7, r8, r9⟩ := R
  exact ⟨⟨hO, mtold_fr F (n _ (by unfold m_trP; omega)) r1, G, S, msh_fr F (fun x _ _ => n _ (by unfold m_trP; omega)) r4, mss_fr F (fun x _ _ => n _ (by unfold m_trP; omega)) r5, mcrew_fr F (n _ (by unfold m_trP; omega)) r6, mim_fr F (n _ (by unfold m_trP; omega)) (n _ (by unfold m_trP; omega)) r7, mtape_fr F (n _ (by unfold m_trP; omega)) r8, mscr_fr F (fun x q => n _ (by unfold m_scrP at q; unfold m_trP; omega)) r9⟩, F.mono fun x q => by have := hP x q; unfold m_trP at this; omega⟩
theorem rr_undo (R : RSt h σ) (A : AWt σ) : ∃ h', (∀ d, jx_C rc (d + 20) 103 [.ref 336] h = some (some (.int (op_undo σ).1), h')) ∧ RSt h' (op_undo σ).2 ∧ rF h h' := by
  have n40 := Nat.le_trans A.tr.1 A.tr.2.1
  have a1 := A.tr.1
  unfold op_undo
  by_cases c0 : σ.2.1.1 = 0
  · rw [if_pos c0]
    obtain ⟨f', f1, f2, f3⟩ := rr_error (rc := rc) R A (k := 2) (by decide) (K := 2) rfl
    refine ⟨f', fun d => ?_, f2, f3⟩
    rw [je_103, if_pos R.is, R.done, jk_bs, if_pos (by rw [c0]; rfl), f1, jk_cI]
  rw [if_neg c0]
  obtain ⟨n, hn⟩ : ∃ n, σ.2.1.1 = n + 1 := ⟨σ.2.1.1 - 1, by omega⟩
  obtain ⟨⟨a, b, c, d', e, f, g, k', o, o'⟩, -⟩ := id R
  obtain ⟨t1, t2, t3, D, t4, t5⟩ := R.tr
  have F1 : Fr (fun x => x = 336) h (jx_set h 336 (m_obj (Int32.ofNat n) (Int32.ofNat σ.2.1.2.1) (Int32.ofNat σ.2.2.2.2.2.2.1) a b c d' (Int32.ofNat σ.2.2.2.2.1.1) e f g k' (jk_b σ.2.2.2.2.2.1.isSome))) := Fr.one
  generalize hh1 : jx_set h 336 (m_obj (Int32.ofNat n) (Int32.ofNat σ.2.1.2.1) (Int32.ofNat σ.2.2.2.2.2.2.1) a b c d' (Int32.ofNat σ.2.2.2.2.1.1) e f g k' (jk_b σ.2.2.2.2.2.1.isSome)) = h1 at F1
  have o1 : jx_at h1 336 = m_obj (Int32.ofNat n) (Int32.ofNat σ.2.1.2.1) (Int32.ofNat σ.2.2.2.2.2.2.1) a b c d' (Int32.ofNat σ.2.2.2.2.1.1) e f g k' (jk_b σ.2.2.2.2.2.1.isSome) := by rw [← hh1]; exact jk_at_self ..
  have G : ro_at h1 (340 + n) (σ.2.1.2.2.2.2 n) := ro_fr F1 (by omega) ((t3 n (by omega)).resolve_left (by omega))
  obtain ⟨h2, s1, s2, s3⟩ := ro_copies (rc := rc) (a := 340 + n) (b := 338) (by omega) G (ro_fr F1 (by omega) R.F)
  have FF : Fr (fun x => x = 336 ∨ x = 338) h h2 := (F1.mono fun x q => Or.inl q).trans (s3.mono fun x q => Or.inr q)
  have K : RSt h2 (σ.1, tr_at σ.2.1 n, σ.2.2) ∧ rF h h2 := by
    refine rr_trF (t' := tr_at σ.2.1 n) R FF (fun x q => by unfold m_trP; omega) ⟨a, b, c, d', e, f, g, k', (s3.2.2 _ (by omega)).trans o1, o'⟩ s2 ⟨rows_fr FF (by omega) t1, fun i hi => ?_, fun i hi => ?_, D, (FF.2.2 _ (by omega)).trans t4, t5⟩
    · obtain ⟨f, q⟩ := t2 i hi
      exact ⟨f, ro_fr FF (by omega) q⟩
    · exact (t3 i hi).imp id (ro_fr FF (by omega))
  obtain ⟨c1, c2⟩ := K
  rw [hn, Nat.add_sub_cancel]
  refine ⟨h2, fun d => ?_, c1, c2⟩
  rw [je_103, if_pos R.is, R.done, jk_bs, if_neg (by rw [hn, show (0 : Int32) = Int32.ofNat 0 from rfl, jk_inj (by omega) (by decide)]; omega), jk_bs, hn, jk_pred, o, hn, show jx_pF (m_obj (Int32.ofNat (n + 1)) (Int32.ofNat σ.2.1.2.1) (Int32.ofNat σ.2.2.2.2.2.2.1) a b c d' (Int32.ofNat σ.2.2.2.2.1.1) e f g k' (jk_b σ.2.2.2.2.2.1.isSome)) 12 4 (.int (Int32.ofNat n)) = some (m_obj (Int32.ofNat n) (Int32.ofNat σ.2.1.2.1) (Int32.ofNat σ.2.2.2.2.2.2.1) a b c d' (Int32.ofNat σ.2.2.2.2.1.1) e f g k' (jk_b σ.2.2.2.2.2.1.isSome)) from rfl, jk_bs, hh1, o1, show jx_gR (m_obj (Int32.ofNat n) (Int32.ofNat σ.2.1.2.1) (Int32.ofNat σ.2.2.2.2.2.2.1) a b c d' (Int32.ofNat σ.2.2.2.2.1.1) e f g k' (jk_b σ.2.2.2.2.2.1.isSome)) 12 2 = some 339 from rfl, jk_bs, show jx_gI (m_obj (Int32.ofNat n) (Int32.ofNat σ.2.1.2.1) (Int32.ofNat σ.2.2.2.2.2.2.1) a b c d' (Int32.ofNat σ.2.2.2.2.1.1) e f g k' (jk_b σ.2.2.2.2.2.1.isSome)) 12 4 = some (Int32.ofNat n) from rfl, jk_bs, m_rows_q (rows_fr F1 (by omega) t1) (by omega) (by decide), jk_bs, jk_mos, show jx_gR (m_obj (Int32.ofNat n) (Int32.ofNat σ.2.1.2.1) (Int32.ofNat σ.2.2.2.2.2.2.1) a b c d' (Int32.ofNat σ.2.2.2.2.1.1) e f g k' (jk_b σ.2.2.2.2.2.1.isSome)) 12 1 = some 338 from rfl, jk_bs, s1, jk_cV, c1.done, jk_bs]
  rfl
theorem rr_redo (R : RSt h σ) (A : AWt σ) : ∃ h', (∀ d, jx_C rc (d + 20) 104 [.ref 336] h = some (some (.int (op_redo σ).1), h')) ∧ RSt h' (op_redo σ).2 ∧ rF h h' := by
  have n40 := Nat.le_trans A.tr.1 A.tr.2.1
  have m40 := A.tr.2.1
  have a1 := A.tr.1
  unfold op_redo
  by_cases c0 : σ.2.1.2.1 ≤ σ.2.1.1
  · rw [if_pos c0]
    obtain ⟨f', f1, f2, f3⟩ := rr_error (rc := rc) R A (k := 2) (by decide) (K := 2) rfl
    refine ⟨f', fun d => ?_, f2, f3⟩
    rw [je_104, if_pos R.is, R.done, jk_bs, R.all, jk_bs, if_pos (by rw [show σ.2.1.1 = σ.2.1.2.1 by omega]), f1, jk_cI]
  rw [if_neg c0]
  generalize hn : σ.2.1.1 = n at *
  obtain ⟨⟨a, b, c, d', e, f, g, k', o, o'⟩, -⟩ := id R
  rw [hn] at o
  obtain ⟨t1, t2, t3, D, t4, t5⟩ := R.tr
  have F1 : Fr (fun x => x = 336) h (jx_set h 336 (m_obj (Int32.ofNat (n + 1)) (Int32.ofNat σ.2.1.2.1) (Int32.ofNat σ.2.2.2.2.2.2.1) a b c d' (Int32.ofNat σ.2.2.2.2.1.1) e f g k' (jk_b σ.2.2.2.2.2.1.isSome))) := Fr.one
  generalize hh1 : jx_set h 336 (m_obj (Int32.ofNat (n + 1)) (Int32.ofNat σ.2.1.2.1) (Int32.ofNat σ.2.2.2.2.2.2.1) a b c d' (Int32.ofNat σ.2.2.2.2.1.1) e f g k' (jk_b σ.2.2.2.2.2.1.isSome)) = h1 at F1
  have o1 : jx_at h1 336 = m_obj (Int32.ofNat (n + 1)) (Int32.ofNat σ.2.1.2.1) (Int32.ofNat σ.2.2.2.2.2.2.1) a b c d' (Int32.ofNat σ.2.2.2.2.1.1) e f g k' (jk_b σ.2.2.2.2.2.1.isSome) := by rw [← hh1]; exact jk_at_self ..
  have G : ro_at h1 (340 + (n + 1)) (σ.2.1.2.2.2.2 (n + 1)) := ro_fr F1 (by omega) ((t3 (n + 1) (by omega)).resolve_left (by omega))
  obtain ⟨h2, s1, s2, s3⟩ := ro_copies (rc := rc) (a := 340 + (n + 1)) (b := 338) (by omega) G (ro_fr F1 (by omega) R.F)
  have FF : Fr (fun x => x = 336 ∨ x = 338) h h2 := (F1.mono fun x q => Or.inl q).trans (s3.mono fun x q => Or.inr q)
  have K : RSt h2 (σ.1, tr_at σ.2.1 (n + 1), σ.2.2) ∧ rF h h2 := by
    refine rr_trF (t' := tr_at σ.2.1 (n + 1)) R FF (fun x q => by unfold m_trP; omega) ⟨a, b, c, d', e, f, g, k', (s3.2.2 _ (by omega)).trans o1, o'⟩ s2 ⟨rows_fr FF (by omega) t1, fun i hi => ?_, fun i hi => ?_, D, (FF.2.2 _ (by omega)).trans t4, t5⟩
    · obtain ⟨f, q⟩ := t2 i hi
      exact ⟨f, ro_fr FF (by omega) q⟩
    · exact (t3 i hi).imp id (ro_fr FF (by omega))
  obtain ⟨c1, c2⟩ := K
  refine ⟨h2, fun d => ?_, c1, c2⟩
  rw [je_104, if_pos R.is, R.done, jk_bs, R.all, jk_bs, hn, if_neg (by rw [jk_inj (by omega) (by omega)]; omega), jk_bs, jk_succ, o, show jx_pF (m_obj (Int32.ofNat n) (Int32.ofNat σ.2.1.2.1) (Int32.ofNat σ.2.2.2.2.2.2.1) a b c d' (Int32.ofNat σ.2.2.2.2.1.1) e f g k' (jk_b σ.2.2.2.2.2.1.isSome)) 12 4 (.int (Int32.ofNat (n + 1))) = some (m_obj (Int32.ofNat (n + 1)) (Int32.ofNat σ.2.1.2.1) (Int32.ofNat σ.2.2.2.2.2.2.1) a b c d' (Int32.ofNat σ.2.2.2.2.1.1) e f g k' (jk_b σ.2.2.2.2.2.1.isSome)) from rfl, jk_bs, hh1, o1, show jx_gR (m_obj (Int32.ofNat (n + 1)) (Int32.ofNat σ.2.1.2.1) (Int32.ofNat σ.2.2.2.2.2.2.1) a b c d' (Int32.ofNat σ.2.2.2.2.1.1) e f g k' (jk_b σ.2.2.2.2.2.1.isSome)) 12 2 = some 339 from rfl, jk_bs, show jx_gI (m_obj (Int32.ofNat (n + 1)) (Int32.ofNat σ.2.1.2.1) (Int32.ofNat σ.2.2.2.2.2.2.1) a b c d' (Int32.ofNat σ.2.2.2.2.1.1) e f g k' (jk_b σ.2.2.2.2.2.1.isSome)) 12 4 = some (Int32.ofNat (n + 1)) from rfl, jk_bs, m_rows_q (rows_fr F1 (by omega) t1) (by omega) (by decide), jk_bs, jk_mos, show jx_gR (m_obj (Int32.ofNat (n + 1)) (Int32.ofNat σ.2.1.2.1) (Int32.ofNat σ.2.2.2.2.2.2.1) a b c d' (Int32.ofNat σ.2.2.2.2.1.1) e f g k' (jk_b σ.2.2.2.2.2.1.isSome)) 12 1 = some 338 from rfl, jk_bs, s1, jk_cV, c1.done, jk_bs]
  rfl
end
