/-! image(): the reference -/
section
variable {rc : Nat → Nat × (Nat → Int32)} {h h' : jxH} {σ : jSt} {P : Nat → Prop} {c : jC}
theorem mo_g36 (a1 a2 a3 a4 a5 a6 a7 a8 a9 a10 a11 a12 a13 : Int32) : jx_gR (m_obj a1 a2 a3 a4 a5 a6 a7 a8 a9 a10 a11 a12 a13) 12 36 = some 449 := rfl
theorem mo_g37 (a1 a2 a3 a4 a5 a6 a7 a8 a9 a10 a11 a12 a13 : Int32) : jx_gR (m_obj a1 a2 a3 a4 a5 a6 a7 a8 a9 a10 a11 a12 a13) 12 37 = some 450 := rfl
theorem mo_p38 (x a1 a2 a3 a4 a5 a6 a7 a8 a9 a10 a11 a12 a13 : Int32) : jx_pF (m_obj a1 a2 a3 a4 a5 a6 a7 a8 a9 a10 a11 a12 a13) 12 38 (.int x) = some (m_obj a1 a2 a3 a4 a5 a6 a7 a8 a9 a10 a11 x a13) := rfl
theorem mo_p39 (x a1 a2 a3 a4 a5 a6 a7 a8 a9 a10 a11 a12 a13 : Int32) : jx_pF (m_obj a1 a2 a3 a4 a5 a6 a7 a8 a9 a10 a11 a12 a13) 12 39 (.int x) = some (m_obj a1 a2 a3 a4 a5 a6 a7 a8 a9 a10 a11 a12 x) := rfl
theorem RS_im {im' : jG} (R : RSt h σ) (A : AWt σ) (F : Fr P h h') (hP : ∀ x, P x → x = 336 ∨ x = 449 ∨ x = 450) (hO : ∃ a b c d e f g k : Int32, jx_at h' 336 = m_obj (Int32.ofNat σ.2.1.1) (Int32.ofNat σ.2.1.2.1) (Int32.ofNat σ.2.2.2.2.2.2.1) a b c d (Int32.ofNat (sC σ).1) e f g k (jk_b im'.isSome) ∧ (im'.isSome = true → k = Int32.ofNat (im_n im'))) (S : m_im h' im') : RSt h' (σ.1, σ.2.1, σ.2.2.1, σ.2.2.2.1, sC σ, im', σ.2.2.2.2.2.2) ∧ rF h h' := by
  have n : ∀ x, ¬ (x = 336 ∨ x = 449 ∨ x = 450) → ¬ P x := fun x a b => a (hP x b)
  obtain ⟨-, r1, r2, r3, r4, r5, r6, r7, r8, r9⟩ := R
  exact ⟨⟨hO, mtold_fr F (n _ (by omega)) r1, ro_fr F (n _ (by omega)) r2, mtr_fr F (fun x _ _ => n _ (by omega)) A.tr.2.1 r3, msh_fr F (fun x _ _ => n _ (by omega)) r4, mss_fr F (fun x _ _ => n _ (by omega)) r5, mcrew_fr F (n _ (by omega)) r6, S, mtape_fr F (n _ (by omega)) r8, mscr_fr F (fun x q => n _ (by unfold m_scrP at q; omega)) r9⟩, F.mono fun x q => by have := hP x q; omega⟩
theorem im_l {o : jxE} (o26 : jx_gR o 12 26 = some 437) (o37 : jx_gR o 12 37 = some 450) {G : Nat → Int32} : ∀ (m k : Nat) (h : jxH) (T : Nat → Int32), k + m = 18 → jx_at h 336 = o → jx_at h 437 = jxI 0 18 G → jx_at h 450 = jxI 0 18 T → (∀ j, j < k → T j = G j) → ∃ h' T', (∀ d, jb_203 rc d 7 [(0, .ref 336), (1, .int (Int32.ofNat k))] [] h = jb_203 rc d 7 [(0, .ref 336), (1, .int (Int32.ofNat 18))] [] h') ∧ jx_at h' 450 = jxI 0 18 T' ∧ (∀ j, j < 18 → T' j = G j) ∧ Fr (fun x => x = 450) h h'
  | 0, k, h, T, e, _, _, ht, q => by
    obtain rfl : k = 18 := by omega
    exact ⟨h, T, fun d => rfl, ht, q, Fr.rfl⟩
  | m + 1, k, h, T, e, ho, hg, ht, q => by
    have F : Fr (fun x => x = 450) h (jx_set h 450 (jxI 0 18 (upd T k (G k)))) := Fr.one
    obtain ⟨h', T', i1, i2, i3, i4⟩ := im_l o26 o37 m (k + 1) (jx_set h 450 (jxI 0 18 (upd T k (G k)))) (upd T k (G k)) (by omega) ((F.2.2 _ (by omega)).trans ho) ((F.2.2 _ (by omega)).trans hg) (jk_at_self ..) (fun j hj => by
      unfold upd
      by_cases z : j = k
      · rw [if_pos z, z]
      · rw [if_neg z]; exact q j (by omega))
    refine ⟨h', T', fun d => ?_, i2, i3, F.trans i4⟩
    rw [je_203_7, if_neg (by rw [show (18 : Int32) = Int32.ofNat 18 from rfl, jk_le (by decide) (by omega)]; omega), ho, o37, jk_bs, o26, jk_bs, hg, jk_aI (by omega) (by decide), jk_bs, ht, jk_sI (by omega) (by decide), jk_bs, jk_succ]
    exact i1 d
theorem rr_image (R : RSt h σ) (A : AWt σ) : ∃ h', (∀ d, jx_C rc (d + 20) 203 [.ref 336] h = some (some (.int (op_image σ).1), h')) ∧ RSt h' (op_image σ).2 ∧ rF h h' := by
  obtain ⟨⟨a, b, cc, d', e, f, g, k', o, o'⟩, -, -, -, -, -, -, ⟨⟨f0, p0⟩, ⟨T, hT⟩, -⟩, -, -⟩ := id R
  obtain ⟨G, g1, g2⟩ := R.crew
  obtain ⟨h1, r1, r2, r3⟩ := ro_copies (rc := rc) (a := 338) (b := 449) (by decide) R.F p0
  have ho1 := (r3.2.2 336 (by decide)).trans o
  obtain ⟨h2, T', i1, i2, i3, i4⟩ := im_l (rc := rc) (mo_g26 ..) (mo_g37 ..) 18 0 h1 T (by omega) ho1 ((r3.2.2 437 (by decide)).trans g1) ((r3.2.2 450 (by decide)).trans hT) (fun j hj => absurd hj (Nat.not_lt_zero j))
  have ho2 := (i4.2.2 336 (by decide)).trans ho1
  have F3 : Fr (fun x => x = 336) h2 (jx_set h2 336 (m_obj (Int32.ofNat σ.2.1.1) (Int32.ofNat σ.2.1.2.1) (Int32.ofNat σ.2.2.2.2.2.2.1) a b cc d' (Int32.ofNat (sC σ).1) e f g (Int32.ofNat (sC σ).1) 1)) := Fr.one
  have FA : Fr (fun x => x = 336 ∨ x = 449 ∨ x = 450) h (jx_set h2 336 (m_obj (Int32.ofNat σ.2.1.1) (Int32.ofNat σ.2.1.2.1) (Int32.ofNat σ.2.2.2.2.2.2.1) a b cc d' (Int32.ofNat (sC σ).1) e f g (Int32.ofNat (sC σ).1) 1)) := ((r3.mono fun x q => by omega).trans (i4.mono fun x q => by omega)).trans (F3.mono fun x q => by omega)
  have m1 := ro_fr F3 (by decide) (ro_fr i4 (by decide) r2)
  have m2 : jx_at (jx_set h2 336 (m_obj (Int32.ofNat σ.2.1.1) (Int32.ofNat σ.2.1.2.1) (Int32.ofNat σ.2.2.2.2.2.2.1) a b cc d' (Int32.ofNat (sC σ).1) e f g (Int32.ofNat (sC σ).1) 1)) 450 = jxI 0 18 T' := (F3.2.2 450 (by decide)).trans i2
  have h6 := A.crew.1
  have K := RS_im (im' := some (sF σ, sC σ)) R A FA (fun x q => q) ⟨a, b, cc, d', e, f, g, _, jk_at_self .., fun _ => rfl⟩ ⟨⟨_, m1⟩, ⟨_, m2⟩, fun f c e => by
    cases e
    refine ⟨m1, T', m2, fun i hi => ?_⟩
    obtain ⟨q0, q1, q2⟩ := g2 i hi
    exact ⟨(i3 _ (by omega)).trans q0, (i3 _ (by omega)).trans q1, (i3 _ (by omega)).trans q2⟩⟩
  refine ⟨_, fun d => ?_, K.1, K.2⟩
  rw [je_203, o, if_pos (mo_is ..), mo_g1, jk_bs, mo_g36, jk_bs, r1, jk_cV]
  refine (i1 (d + 19)).trans ?_
  rw [je_203_7, if_pos (by decide), ho2, mo_g27, jk_bs, mo_p38, jk_bs, if_pos (show jx_bool (1 : Int32) = true by simp [jx_bool]), jk_at_self, mo_p39, jk_bs, jk_set_set, jk_at_self, mo_g1, jk_bs, ro_0 (f := sF σ) K.1.F, jk_bs, rf_many, jk_cI]
  rfl
end
