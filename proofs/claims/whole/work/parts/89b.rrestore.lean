/-! restore(): the reference -/
section
variable {rc : Nat → Nat × (Nat → Int32)} {h h' : jxH} {σ : jSt}
theorem mo_g38 (a1 a2 a3 a4 a5 a6 a7 a8 a9 a10 a11 a12 a13 : Int32) : jx_gI (m_obj a1 a2 a3 a4 a5 a6 a7 a8 a9 a10 a11 a12 a13) 12 38 = some a12 := rfl
theorem mo_g39 (a1 a2 a3 a4 a5 a6 a7 a8 a9 a10 a11 a12 a13 : Int32) : jx_gI (m_obj a1 a2 a3 a4 a5 a6 a7 a8 a9 a10 a11 a12 a13) 12 39 = some a13 := rfl
theorem re_l {o : jxE} (o26 : jx_gR o 12 26 = some 437) (o37 : jx_gR o 12 37 = some 450) {G : Nat → Int32} : ∀ (m k : Nat) (h : jxH) (T : Nat → Int32), k + m = 18 → jx_at h 336 = o → jx_at h 450 = jxI 0 18 G → jx_at h 437 = jxI 0 18 T → (∀ j, j < k → T j = G j) → ∃ h' T', (∀ d, jb_204 rc d 16 [(0, .ref 336), (1, .int (Int32.ofNat k))] [] h = jb_204 rc d 16 [(0, .ref 336), (1, .int (Int32.ofNat 18))] [] h') ∧ jx_at h' 437 = jxI 0 18 T' ∧ (∀ j, j < 18 → T' j = G j) ∧ Fr (fun x => x = 437) h h'
  | 0, k, h, T, e, _, _, ht, q => by
    obtain rfl : k = 18 := by omega
    exact ⟨h, T, fun d => rfl, ht, q, Fr.rfl⟩
  | m + 1, k, h, T, e, ho, hg, ht, q => by
    have F : Fr (fun x => x = 437) h (jx_set h 437 (jxI 0 18 (upd T k (G k)))) := Fr.one
    obtain ⟨h', T', i1, i2, i3, i4⟩ := re_l o26 o37 m (k + 1) (jx_set h 437 (jxI 0 18 (upd T k (G k)))) (upd T k (G k)) (by omega) ((F.2.2 _ (by omega)).trans ho) ((F.2.2 _ (by omega)).trans hg) (jk_at_self ..) (fun j hj => by
      unfold upd
      by_cases z : j = k
      · rw [if_pos z, z]
      · rw [if_neg z]; exact q j (by omega))
    refine ⟨h', T', fun d => ?_, i2, i3, F.trans i4⟩
    rw [je_204_16, if_neg (by rw [show (18 : Int32) = Int32.ofNat 18 from rfl, jk_le (by decide) (by omega)]; omega), ho, o26, jk_bs, o37, jk_bs, hg, jk_aI (by omega) (by decide), jk_bs, ht, jk_sI (by omega) (by decide), jk_bs, jk_succ]
    exact i1 d
theorem rr_restore (R : RSt h σ) (A : AWt σ) : ∃ h', (∀ d, jx_C rc (d + 20) 204 [.ref 336] h = some (some (.int (op_restore σ).1), h')) ∧ RSt h' (op_restore σ).2 ∧ rF h h' := by
  obtain ⟨⟨a, b, cc, d', e, f, g, k', o, o'⟩, -, -, -, -, -, -, ⟨-, -, im⟩, -, -⟩ := id R
  unfold op_restore
  cases hi : σ.2.2.2.2.2.1 with
  | none =>
    obtain ⟨e', e1, e2, e3⟩ := rr_error (rc := rc) R A (k := 2) (by decide) (K := 2) rfl
    refine ⟨e', fun d => ?_, e2, e3⟩
    rw [je_204, if_pos R.is, o, mo_g39, jk_bs, hi, if_pos (show jk_b (none : jG).isSome = 0 from rfl), e1, jk_cI]
  | some x =>
    obtain ⟨fo, c⟩ := x
    obtain ⟨W1, W2⟩ := A.2.2.2.2.1 fo c hi
    obtain ⟨h1, r1, r2, r3⟩ := rr_byHand (rc := rc) R A
    obtain ⟨⟨a, b, cc, d', e, f, g, k', o2, o2'⟩, -, -, -, -, -, -, ⟨-, -, im2⟩, -, -⟩ := id r2
    obtain ⟨m1, -⟩ := im2 fo c hi
    obtain ⟨h2, s1, s2, s3⟩ := ro_copies (rc := rc) (a := 449) (b := 338) (by decide) m1 r2.F
    have R2 := rr_F r2 s3 s2
    obtain ⟨⟨a, b, cc, d', e, f, g, k', o3, o3'⟩, -, -, -, -, -, -, ⟨-, -, im3⟩, -, -⟩ := id R2
    obtain ⟨-, G, q1, q2⟩ := im3 fo c hi
    obtain ⟨T, t1, -⟩ := R2.crew
    obtain ⟨h3, T', i1, i2, i3, i4⟩ := re_l (rc := rc) (mo_g26 ..) (mo_g37 ..) 18 0 h2 T (by omega) o3 q1 t1 (fun j hj => absurd hj (Nat.not_lt_zero j))
    have o4 := (i4.2.2 336 (by decide)).trans o3
    have kh : k' = Int32.ofNat c.1 := by
      have := o3' (by show σ.2.2.2.2.2.1.isSome = true; rw [hi]; rfl)
      rw [this]
      show Int32.ofNat (im_n σ.2.2.2.2.2.1) = _
      rw [hi]; rfl
    have F5 := Fr.one (h := h3) (a := 336) (e := m_obj (Int32.ofNat (hand σ fo).2.1.1) (Int32.ofNat (hand σ fo).2.1.2.1) (Int32.ofNat σ.2.2.2.2.2.2.1) a b cc d' k' e f g k' (jk_b σ.2.2.2.2.2.1.isSome))
    have FA := (i4.mono fun x (q : x = 437) => (Or.inr q : x = 336 ∨ x = 437)).trans (F5.mono fun x q => Or.inl q)
    have h6 := W2.1
    have K := RS_crew (σ := hand σ fo) (c' := c) R2 (aa_hand A W1) FA (fun x q => q) ⟨a, b, cc, d', e, f, g, k', (jk_at_self ..).trans (by rw [← kh]; rfl), o3'⟩ ⟨T', (F5.2.2 437 (by decide)).trans i2, fun i hi => by
      obtain ⟨z0, z1, z2⟩ := q2 i hi
      exact ⟨(i3 _ (by omega)).trans z0, (i3 _ (by omega)).trans z1, (i3 _ (by omega)).trans z2⟩⟩
    refine ⟨_, fun d => ?_, K.1, (r3.trans (rF.one (by decide) (by decide) s3)).trans K.2⟩
    rw [je_204, if_pos R.is, o, mo_g39, jk_bs, hi, if_neg (show ¬ jk_b (some (fo, c)).isSome = 0 from (by decide : ¬ jk_b true = 0)), r1, jk_cV, o2, mo_g36, jk_bs, mo_g1, jk_bs, s1, jk_cV]
    refine (i1 (d + 19)).trans ?_
    rw [je_204_16, if_pos (by decide), o4, mo_g38, jk_bs, mo_p27, jk_bs]
    refine Eq.trans (b := (jx_gR (jx_at (jx_set h3 336 (m_obj (Int32.ofNat (hand σ fo).2.1.1) (Int32.ofNat (hand σ fo).2.1.2.1) (Int32.ofNat σ.2.2.2.2.2.2.1) a b cc d' k' e f g k' (jk_b σ.2.2.2.2.2.1.isSome))) 336) 12 1).bind fun b3 => (jx_aI (jx_at (jx_set h3 336 (m_obj (Int32.ofNat (hand σ fo).2.1.1) (Int32.ofNat (hand σ fo).2.1.2.1) (Int32.ofNat σ.2.2.2.2.2.2.1) a b cc d' k' e f g k' (jk_b σ.2.2.2.2.2.1.isSome))) b3) 0 0).bind fun v4 => jx_cI (jx_C rc (d + 19) 76 [Value.int v4] (jx_set h3 336 (m_obj (Int32.ofNat (hand σ fo).2.1.1) (Int32.ofNat (hand σ fo).2.1.2.1) (Int32.ofNat σ.2.2.2.2.2.2.1) a b cc d' k' e f g k' (jk_b σ.2.2.2.2.2.1.isSome)))) fun v6 h5 => some (some (Value.int v6), h5)) rfl ?_
    rw [K.1.g1, jk_bs, ro_0 (f := fo) K.1.F, jk_bs, rf_many, jk_cI]
    simp only [hi]
    try rfl
end
