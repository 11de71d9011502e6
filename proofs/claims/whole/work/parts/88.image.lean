/-! image(), restore(): the class -/
theorem jk_cpy6 {f g : Nat → Int32} : jx_cp (jxI 0 6 f) (jxI 0 6 g) 0 0 0 6 = some (jxI 0 6 (va_cpy f g 0 0 6)) := by
  unfold jx_cp jxI
  dsimp only
  rw [if_pos (by decide)]
  rfl
theorem jk_cpy6_at {f g : Nat → Int32} {k : Nat} (hk : k < 6) : va_cpy f g 0 0 6 k = f k := by
  unfold va_cpy
  rw [if_pos (by omega)]
  simp
def op_image (σ : jSt) : Int32 × jSt := (Int32.ofNat (bc (sF σ).2.2), (σ.1, σ.2.1, σ.2.2.1, σ.2.2.2.1, sC σ, some (sF σ, sC σ), σ.2.2.2.2.2.2))
def op_restore (σ : jSt) : Int32 × jSt := match σ.2.2.2.2.2.1 with
  | some (f, c) => (Int32.ofNat (bc f.2.2), hand (setC σ c) f)
  | none => er σ 2
section
variable {rc : Nat → Nat × (Nat → Int32)} {h h' : jxH} {σ : jSt} {P : Nat → Prop} {a b : Nat} {c c' : jC}
theorem cr_follow (H : cr_at h a c) (G : cr_at h b c') (h6 : c'.1 ≤ 6) (hab : a + 4 ≤ b ∨ b + 4 ≤ a) : ∃ h', (∀ d, jx_C rc (d + 1) 211 [.ref a, .ref b] h = some (none, h')) ∧ cr_at h' a c' ∧ Fr (jI a 4) h h' := by
  obtain ⟨o, ⟨g0, e0, q0⟩, ⟨g1, e1, q1⟩, g2, e2, q2⟩ := id H
  obtain ⟨o', ⟨g0', e0', q0'⟩, ⟨g1', e1', q1'⟩, g2', e2', q2'⟩ := id G
  have F1 : Fr (fun x => x = a + 1) h (jx_set h (a + 1) (jxI 0 6 (va_cpy g0' g0 0 0 6))) := Fr.one
  have a1 : jx_at (jx_set h (a + 1) (jxI 0 6 (va_cpy g0' g0 0 0 6))) (a + 1) = jxI 0 6 (va_cpy g0' g0 0 0 6) := jk_at_self ..
  generalize hh1 : jx_set h (a + 1) (jxI 0 6 (va_cpy g0' g0 0 0 6)) = h1 at F1 a1
  have F2 : Fr (fun x => x = a + 2) h1 (jx_set h1 (a + 2) (jxI 0 6 (va_cpy g1' g1 0 0 6))) := Fr.one
  have a2 : jx_at (jx_set h1 (a + 2) (jxI 0 6 (va_cpy g1' g1 0 0 6))) (a + 2) = jxI 0 6 (va_cpy g1' g1 0 0 6) := jk_at_self ..
  generalize hh2 : jx_set h1 (a + 2) (jxI 0 6 (va_cpy g1' g1 0 0 6)) = h2 at F2 a2
  have F3 : Fr (fun x => x = a + 3) h2 (jx_set h2 (a + 3) (jxI 0 6 (va_cpy g2' g2 0 0 6))) := Fr.one
  have a3 : jx_at (jx_set h2 (a + 3) (jxI 0 6 (va_cpy g2' g2 0 0 6))) (a + 3) = jxI 0 6 (va_cpy g2' g2 0 0 6) := jk_at_self ..
  generalize hh3 : jx_set h2 (a + 3) (jxI 0 6 (va_cpy g2' g2 0 0 6)) = h3 at F3 a3
  have F4 : Fr (fun x => x = a) h3 (jx_set h3 a (jxO 0 [.ref (a + 1), .ref (a + 2), .ref (a + 3), .int (Int32.ofNat c'.1)])) := Fr.one
  have k1 : ∀ x, x ≠ a + 1 → jx_at h1 x = jx_at h x := fun x hx => F1.2.2 x hx
  have k2 : ∀ x, x ≠ a + 1 → x ≠ a + 2 → jx_at h2 x = jx_at h x := fun x hx hy => (F2.2.2 x hy).trans (k1 x hx)
  have k3 : ∀ x, x ≠ a + 1 → x ≠ a + 2 → x ≠ a + 3 → jx_at h3 x = jx_at h x := fun x hx hy hz => (F3.2.2 x hz).trans (k2 x hx hy)
  refine ⟨_, fun d => ?_, ⟨jk_at_self .., ⟨_, (F4.2.2 _ (by omega)).trans ((F3.2.2 _ (by omega)).trans ((F2.2.2 _ (by omega)).trans a1)), fun i hi => ?_⟩, ⟨_, (F4.2.2 _ (by omega)).trans ((F3.2.2 _ (by omega)).trans a2), fun i hi => ?_⟩, _, (F4.2.2 _ (by omega)).trans a3, fun i hi => ?_⟩, ((F1.mono fun x q => ⟨by omega, by omega⟩).trans (F2.mono fun x q => ⟨by omega, by omega⟩)).trans ((F3.mono fun x q => ⟨by omega, by omega⟩).trans (F4.mono fun x q => ⟨by omega, by omega⟩))⟩
  · rw [je_211, if_pos (cr_is H), cr_g0 G, jk_bs, cr_g0 H, jk_bs, e0', e0, jk_cpy6, jk_bs, hh1, k1 b (by omega), cr_g1 G, jk_bs, k1 a (by omega), cr_g1 H, jk_bs, k1 (b + 2) (by omega), k1 (a + 2) (by omega), e1', e1, jk_cpy6, jk_bs, hh2, k2 b (by omega) (by omega), cr_g2 G, jk_bs, k2 a (by omega) (by omega), cr_g2 H, jk_bs, k2 (b + 3) (by omega) (by omega), k2 (a + 3) (by omega) (by omega), e2', e2, jk_cpy6, jk_bs, hh3, k3 b (by omega) (by omega) (by omega), cr_g3 G, jk_bs, k3 a (by omega) (by omega) (by omega), o, show jx_pF (jxO 0 [Value.ref (a + 1), Value.ref (a + 2), Value.ref (a + 3), Value.int (Int32.ofNat c.1)]) 0 3 (.int (Int32.ofNat c'.1)) = some (jxO 0 [Value.ref (a + 1), Value.ref (a + 2), Value.ref (a + 3), Value.int (Int32.ofNat c'.1)]) from rfl, jk_bs]
  · exact (jk_cpy6_at (by omega)).trans (q0' i hi)
  · exact (jk_cpy6_at (by omega)).trans (q1' i hi)
  · exact (jk_cpy6_at (by omega)).trans (q2' i hi)
theorem cc_restore (C : CSt h σ) (A : AWt σ) : ∃ h', (∀ d, jx_C rc (d + 20) 50 [.ref 0] h = some (some (.int (op_restore σ).1), h')) ∧ CSt h' (op_restore σ).2 ∧ cF h h' := by
  unfold op_restore
  cases hi : σ.2.2.2.2.2.1 with
  | none =>
    obtain ⟨e', e1, e2, e3⟩ := cc_refuse (rc := rc) C A (k := 2) (by decide) (by decide) (K := 2) rfl
    refine ⟨e', fun d => ?_, e2, e3⟩
    rw [je_50, if_pos C.is, C.g16, jk_bs, hi, if_pos (by decide), e1, jk_cI]
  | some x =>
    obtain ⟨f, c⟩ := x
    obtain ⟨W1, W2⟩ := A.2.2.2.2.1 f c hi
    obtain ⟨k1, k2⟩ := C.o.2.2.2 f c hi
    obtain ⟨h1, r1, r2, r3⟩ := cr_follow (rc := rc) C.crew k2 W2.1 (Or.inl (by omega))
    obtain ⟨C1, F1⟩ := cc_crew C A r3 r2
    obtain ⟨h2, s1, s2, s3⟩ := cc_swap (rc := rc) C1 (aa_crew A W2) (fo_fr r3 (fun x a b q => by have := q.2; omega) k1) (by omega) W1.1.s
    refine ⟨h2, fun d => ?_, s2, F1.trans0 ⟨r3.1, r3.2.1⟩ s3⟩
    rw [je_50, if_pos C.is, C.g16, jk_bs, hi, if_neg (show ¬ jk_b (some (f, c)).isSome = 0 from (by decide : ¬ jk_b true = 0)), C.g13, jk_bs, C.g15, jk_bs, r1, jk_cV, C1.g14, jk_bs, s1, jk_cI]
theorem aa_restore (A : AWt σ) : AWt (op_restore σ).2 := by
  unfold op_restore
  cases hi : σ.2.2.2.2.2.1 with
  | none => exact aa_er A
  | some x =>
    obtain ⟨f, c⟩ := x
    obtain ⟨W1, W2⟩ := A.2.2.2.2.1 f c hi
    exact aa_hand (aa_crew A W2) W1
theorem aa_image (A : AWt σ) : AWt (op_image σ).2 := by
  refine ⟨A.1, A.2.1, A.2.2.1, A.crew, fun f c e => ?_, A.2.2.2.2.2⟩
  have e : some (sF σ, sC σ) = some (f, c) := e
  cases e
  exact ⟨A.W, A.crew⟩
theorem CS_im {T : Nat → Int32} {t : jT} {sh : jH} {ss : jE} {c : jC} {im im' : jG} {p : jP} (ht : t.2.1 ≤ 40) (H : CS h T t sh ss c im p) (F : Fr P h h') (hP : ∀ x, P x → x = 0 ∨ (329 ≤ x ∧ x < 336)) (S : c_im h' im') : CS h' T t sh ss c im' p := by
  obtain ⟨h1, h2, h3, h4, h5, h6, h7, h8⟩ := H
  have n : ∀ x, ¬ (x = 0 ∨ (329 ≤ x ∧ x < 336)) → ¬ P x := fun x a b => a (hP x b)
  exact ⟨told_fr F (n _ (by omega)) h1, fo_fr F (fun x a b => n x (by omega)) h2, tr_fr F (fun x a b => n x (by omega)) ht h3, dyn_fr F (n _ (by omega)) (n _ (by omega)) (fun x a => n x (by omega)) h4, cr_fr F (fun x a b => n x (by omega)) h5, S, tp_fr F (fun x a b => n x (by omega)) h7, scr_fr F (fun x a => n x (by unfold c_scrP at a; omega)) h8⟩
theorem cc_image (C : CSt h σ) (A : AWt σ) : ∃ h', (∀ d, jx_C rc (d + 20) 49 [.ref 0] h = some (some (.int (op_image σ).1), h')) ∧ CSt h' (op_image σ).2 ∧ cF h h' := by
  obtain ⟨o, ⟨f0, p0⟩, ⟨c0, p1⟩, -⟩ := C.o
  obtain ⟨h1, r1, r2, r3⟩ := fo_follow (rc := rc) p0 C.F (Or.inr (by omega))
  have k1 : ∀ x, ¬ (329 ≤ x ∧ x < 332) → jx_at h1 x = jx_at h x := fun x hx => r3.2.2 x fun q => hx ⟨q.1, by have := q.2; omega⟩
  obtain ⟨h2, s1, s2, s3⟩ := cr_follow (rc := rc) (cr_fr r3 (fun x a b q => by have := q.2; omega) p1) (cr_fr r3 (fun x a b q => by have := q.1; omega) C.crew) A.crew.1 (Or.inr (by omega))
  have o2 : jx_at h2 0 = jx_at h 0 := (s3.2.2 0 (fun q => by have := q.1; omega)).trans (k1 0 (by omega))
  have F3 : Fr (fun x => x = 0) h2 (jx_set h2 0 (jxO 11 [.ref 1, .ref 2, .ref 5, .ref 8, .ref 12, .ref 174, .ref 178, .ref 186, .ref 241, .ref 243, .ref 320, .ref 323, .ref 324, .ref 325, .ref 329, .ref 332, .int 1])) := Fr.one
  have FA : Fr (fun x => x = 0 ∨ (329 ≤ x ∧ x < 336)) h (jx_set h2 0 (jxO 11 [.ref 1, .ref 2, .ref 5, .ref 8, .ref 12, .ref 174, .ref 178, .ref 186, .ref 241, .ref 243, .ref 320, .ref 323, .ref 324, .ref 325, .ref 329, .ref 332, .int 1])) := ((r3.mono fun x q => Or.inr ⟨q.1, by have := q.2; omega⟩).trans (s3.mono fun x q => Or.inr ⟨by have := q.1; omega, by have := q.2; omega⟩)).trans (F3.mono fun x q => Or.inl q)
  have i1 := fo_fr F3 (fun x a b => by omega) (fo_fr s3 (fun x a b q => by have := q.1; omega) r2)
  have i2 := cr_fr F3 (fun x a b => by omega) s2
  have K : CSt (jx_set h2 0 (jxO 11 [.ref 1, .ref 2, .ref 5, .ref 8, .ref 12, .ref 174, .ref 178, .ref 186, .ref 241, .ref 243, .ref 320, .ref 323, .ref 324, .ref 325, .ref 329, .ref 332, .int 1])) (op_image σ).2 :=
    CS_im A.tr.2.1 C FA (fun x q => q) ⟨jk_at_self .., ⟨_, i1⟩, ⟨_, i2⟩, fun f c e => by
      have e : some (sF σ, sC σ) = some (f, c) := e
      cases e
      exact ⟨i1, i2⟩⟩
  refine ⟨_, fun d => ?_, K, cF.of FA (fun x q => by omega)⟩
  rw [je_49, if_pos C.is, C.g14, jk_bs, C.g1, jk_bs, r1, jk_cV, k1 0 (by omega), C.g15, jk_bs, C.g13, jk_bs, s1, jk_cV, if_pos (show jx_bool (1 : Int32) = true by simp [jx_bool]), o2, o, show jx_pF (jxO 11 [Value.ref 1, Value.ref 2, Value.ref 5, Value.ref 8, Value.ref 12, Value.ref 174, Value.ref 178, Value.ref 186, Value.ref 241, Value.ref 243, Value.ref 320, Value.ref 323, Value.ref 324, Value.ref 325, Value.ref 329, Value.ref 332, Value.int (jk_b σ.2.2.2.2.2.1.isSome)]) 11 16 (.int 1) = some (jxO 11 [.ref 1, .ref 2, .ref 5, .ref 8, .ref 12, .ref 174, .ref 178, .ref 186, .ref 241, .ref 243, .ref 320, .ref 323, .ref 324, .ref 325, .ref 329, .ref 332, .int 1]) from rfl, jk_bs, K.g1, jk_bs, fo_size (f := sF σ) K.F A.B.s, jk_cI]
  rfl
end
