/-! REACH: the class's call -/
section
variable {rc : Nat → Nat × (Nat → Int32)} {h h' : jxH} {a b : Nat} {f G : jF} {σ : jSt} {P : Nat → Prop}
theorem cg_begin (I : cg_I h G) (K : fo_at h 2 f) (L : ∃ g, fo_at h 308 g) : ∃ h', (∀ D, jx_C rc (D + 2) 264 [.ref 243, .ref 2] h = some (none, h')) ∧ cg_I h' G ∧ fo_at h' 308 f ∧ Fr (jI 308 3) h h' := by
  obtain ⟨g, L⟩ := L
  obtain ⟨h1, r1, r2, r3⟩ := fo_follow (rc := rc) L K (Or.inr (by omega))
  refine ⟨h1, fun D => ?_, cg_fr r3 (fun x hx w => by unfold jI at w; omega) I, r2, r3⟩
  rw [je_264, if_pos (sg_is I.1.1), show (0 : Int32) = Int32.ofNat 0 from rfl, cg_level I (by decide), jk_cRs, jk_mos, r1, jk_cV]
theorem cg_keep (E : se_ok h 243) (F : Fr (fun x => 243 ≤ x ∧ x < 320) h h') (I : cg_I h' G) (L : ∀ i, i < 4 → ∃ g, fo_at h' (308 + 3 * i) g) (L2 : ∃ g, fo_at h' 246 g) : se_ok h' 243 := by
  obtain ⟨⟨⟨i3, i4, i5, o⟩, T, S, K⟩, g0, g1, Q, s⟩ := I
  exact ⟨⟨_, _, _, _, _, o⟩, Q, ⟨s, L2⟩, S, K, tx_okof T, L⟩
theorem cg_first (hr : jk_rom rc) (V : jf_W G) (W : jf_W f) : ∀ (m k : Nat) (h : jxH), k + m ≤ 4 → cg_I h G → fo_at h 308 f → (∀ i, 0 < i → i < 4 → ∃ g, fo_at h (308 + 3 * i) g) → jx_gR (jx_at h 0) 11 9 = some 243 → ∃ h', (∀ D n, Int32.ofNat n = Int32.ofNat (k + m) + (-1) → n < 4 → n + 1 = k + m → jb_41 rc (D + 19) 36 [(0, .ref 0), (2, .int (Int32.ofNat n)), (4, .int (Int32.ofNat k))] [] h = (match rc_first (TT G) f m k with
    | some x => some (some (.int (Int32.ofNat x)), h')
    | none => jx_cI (jx_C rc (D + 19) 53 [.ref 0, .int (2 : Int32)] h') fun v2 h1 => some (some (.int v2), h1))) ∧ cg_I h' G ∧ Fr (cg_P 0) h h' ∧ (∀ i, 0 < i → i < 4 → ∃ g, fo_at h' (308 + 3 * i) g)
  | 0, k, h, e, I, K, L, g9 => by
    refine ⟨h, fun D n e1 n4 e2 => ?_, I, Fr.rfl, L⟩
    rw [je_41_36, if_pos (by rw [jk_lt (by omega) (by omega)]; omega)]
    rfl
  | m + 1, k, h, e, I, K, L, g9 => by
    obtain ⟨h1, r1, r2, r3, r4⟩ := cg_climb (rc := rc) hr V k 0 f h (by omega) W I K L
    have st : ∀ D n, n < 4 → n + 1 = k + (m + 1) → jb_41 rc (D + 19) 36 [(0, .ref 0), (2, .int (Int32.ofNat n)), (4, .int (Int32.ofNat k))] [] h = (if jk_b (rch (TT G) k f) = 0 then jb_41 rc (D + 19) 36 [(0, .ref 0), (2, .int (Int32.ofNat n)), (4, .int (Int32.ofNat k + 1))] [] h1 else some (some (.int (Int32.ofNat k)), h1)) := fun D n n4 e2 => by
      have := r1 (D + (8 - k))
      rw [show D + (8 - k) + k + 11 = D + 19 by omega, Nat.zero_add] at this
      have this : jx_C rc (D + 19) 270 [.ref 243, .int (0 : Int32), .int (Int32.ofNat k)] h = _ := this
      rw [je_41_36, if_neg (by rw [jk_lt (by omega) (by omega)]; omega), g9, jk_bs, this, jk_cI]
    by_cases c : rch (TT G) k f = true
    · refine ⟨h1, fun D n e1 n4 e2 => ?_, r2, r3, r4⟩
      rw [st D n n4 e2, jk_if0, if_pos c, show rc_first (TT G) f (m + 1) k = some k from if_pos c]
    · obtain ⟨h2, t1, t2, t3, t4⟩ := cg_first hr V W m (k + 1) h1 (by omega) r2 (cg_lvl (d := 0) r3 K (by omega)) r4 (by rw [r3.2.2 0 (fun w => by unfold cg_P at w; omega)]; exact g9)
      refine ⟨h2, fun D n e1 n4 e2 => ?_, t2, r3.trans t3, t4⟩
      rw [st D n n4 e2, jk_if0, if_neg c, jk_succ, show rc_first (TT G) f (m + 1) k = rc_first (TT G) f m (k + 1) from if_neg c]
      exact t1 D n (by rw [e1, show k + (m + 1) = k + 1 + m by omega]) n4 (by omega)
theorem cc_reach (hr : jk_rom rc) (C : CSt h σ) (A : AWt σ) (k n : Int32) : ∃ h', (∀ d, jx_C rc (d + 20) 41 [.ref 0, .int k, .int n] h = some (some (.int (op_reach σ k n).1), h')) ∧ CSt h' (op_reach σ k n).2 ∧ cF h h' := by
  unfold op_reach
  obtain ⟨e', e1, e2, e3⟩ := cc_refuse (rc := rc) C A (k := 1) (by decide) (by decide) (K := 1) rfl
  by_cases c0 : jp_four k = true
  · rw [if_pos c0]
    obtain ⟨j, hj, rfl⟩ := jp_four_iff.mp c0
    rw [pn_4 hj]
    have k4 : ¬ (4 : Int32) ≤ Int32.ofNat j := by rw [show (4 : Int32) = Int32.ofNat 4 from rfl, jk_le (by decide) (by omega)]; omega
    by_cases c1 : jp_hi n 3 = true
    · rw [if_pos c1]
      obtain ⟨m, hm, rfl⟩ := (jp_hi_iff (n := 3) (by decide)).mp c1
      rw [show pn (Int32.ofNat m) = m from jk_cl (by omega)]
      have m3 : Int32.ofNat m ≤ 3 := by rw [show (3 : Int32) = Int32.ofNat 3 from rfl, jk_le (by omega) (by decide)]; omega
      obtain ⟨Q, R, q, r, n0, a1, -⟩ := C.dyn
      have st : ∀ d, jx_C rc (d + 20) 41 [.ref 0, .int (Int32.ofNat j), .int (Int32.ofNat m)] h = _ := fun d => by
        rw [je_41, if_pos C.is, if_neg (jk_nn (by omega)), if_neg k4, if_neg (jk_nn (by omega)), if_pos m3, C.g11, jk_bs, q, jk_aQ hj (by decide), jk_bs]
      rcases a1 j hj with ⟨b1, b2⟩ | ⟨g, b, b1, b2, b3, b4, b5⟩
      · rw [b1]
        obtain ⟨f', f1, f2, f3⟩ := cc_refuse (rc := rc) C A (k := 7) (by decide) (by decide) (K := 7) rfl
        refine ⟨f', fun d => ?_, f2, f3⟩
        rw [st d, b2, jk_mon, f1, jk_cI]
      · rw [b1]
        have V := A.2.1 j g hj b1
        have E := C.scr.2.2.2.2.2.2
        obtain ⟨qI1, qI2, qI3⟩ := se_I h E
        obtain ⟨-, -, ⟨-, f246⟩, -⟩ := id E
        obtain ⟨h1, s1, s2, s3⟩ := cc_aim (rc := rc) V E b5 (by omega)
        have g01 : jx_gR (jx_at h1 243) 3 0 = some 244 ∧ jx_gR (jx_at h1 243) 3 1 = some 245 := by
          obtain ⟨⟨i3, i4, i5, o⟩, -⟩ := id s2
          rw [o]; exact ⟨rfl, rfl⟩
        have I1 : cg_I h1 g := by
          obtain ⟨Q', q1, q2⟩ := qI1
          obtain ⟨mm, sg, s⟩ := qI2
          exact ⟨s2, g01.1, g01.2, ⟨Q', (s3.2.2 _ (by omega)).trans q1, q2⟩, mm, sg, st_fr s3 (by omega) s⟩
        obtain ⟨C1, F1⟩ := cc_se2 C A (s3.mono fun x hx => by omega) (se_keep E s3 s2)
        have L1 : ∀ i, i < 4 → ∃ g, fo_at h1 (308 + 3 * i) g := fun i hi => by
          obtain ⟨g, q⟩ := qI3 i hi
          exact ⟨g, fo_fr s3 (by omega) q⟩
        obtain ⟨h2, t1, t2, t3, t4⟩ := cg_begin (rc := rc) I1 C1.F (L1 0 (by decide))
        have L2 : ∀ i, 0 < i → i < 4 → ∃ g, fo_at h2 (308 + 3 * i) g := fun i i0 hi => by
          obtain ⟨g, q⟩ := L1 i hi
          exact ⟨g, fo_fr t4 (fun x a b w => by unfold jI at w; omega) q⟩
        have g9 : jx_gR (jx_at h2 0) 11 9 = some 243 := by rw [t4.2.2 0 (fun w => by unfold jI at w; omega)]; exact C1.g9
        obtain ⟨h3, u1, u2, u3, u4⟩ := cg_first (rc := rc) hr V A.W (m + 1) 0 h2 (by omega) t2 t3 L2 g9
        have F3 : Fr (fun x => 243 ≤ x ∧ x < 320) h h3 := ((s3.mono fun x hx => by omega).trans (t4.mono fun x hx => by unfold jI at hx; omega)).trans (u3.mono fun x hx => by unfold cg_P at hx; omega)
        obtain ⟨f246, q246⟩ := f246
        have q246' : fo_at h3 246 f246 := fo_fr u3 (fun x a b w => by unfold cg_P at w; omega) (fo_fr t4 (fun x a b w => by unfold jI at w; omega) (fo_fr s3 (by omega) q246))
        obtain ⟨C3, FC⟩ := cc_se2 C A F3 (cg_keep E F3 u2 (fun i hi => by
          by_cases z : i = 0
          · subst z; exact ⟨_, cg_lvl (d := 0) u3 t3 (by omega)⟩
          · exact u4 i (by omega) hi) ⟨_, q246'⟩)
        have st2 : ∀ d, jx_C rc (d + 20) 41 [.ref 0, .int (Int32.ofNat j), .int (Int32.ofNat m)] h = (match rc_first (TT g) (sF σ) (m + 1) 0 with
    | some x => some (some (.int (Int32.ofNat x)), h3)
    | none => jx_cI (jx_C rc (d + 19) 53 [.ref 0, .int (2 : Int32)] h3) fun v2 h1 => some (some (.int v2), h1)) := fun d => by
          refine Eq.trans ?_ (u1 d m (by rw [Nat.zero_add, ← jk_pred m]; exact Int32.sub_eq_add_neg _ _) (by omega) (by omega))
          rw [st d, b2, jk_mos, C.g9, jk_bs, s1, jk_cV, C1.g9, jk_bs, C1.g1, jk_bs, t1, jk_cV]
          rfl
        dsimp only
        cases e : rc_first (TT g) (sF σ) (m + 1) 0 with
        | some x =>
          refine ⟨h3, fun d => ?_, C3, FC⟩
          rw [st2 d, e]
        | none =>
          obtain ⟨f', f1, f2, f3⟩ := cc_refuse (rc := rc) C3 A (k := 2) (by decide) (by decide) (K := 2) rfl
          refine ⟨f', fun d => ?_, f2, FC.trans0 ⟨F3.1, F3.2.1⟩ f3⟩
          rw [st2 d, e]
          dsimp only
          rw [f1, jk_cI]
    · rw [if_neg c1]
      refine ⟨e', fun d => ?_, e2, e3⟩
      rw [je_41, if_pos C.is, if_neg (jk_nn (by omega)), if_neg k4]
      by_cases n0 : n < 0
      · rw [if_pos n0, e1, jk_cI]
      · rw [if_neg n0]
        have n3 : ¬ n ≤ 3 := fun z => c1 (by
          have ex := jk_of n0
          have l := jk_of_lt n
          rw [ex, show (3 : Int32) = Int32.ofNat 3 from rfl, jk_le l (by decide)] at z
          exact (jp_hi_iff (n := 3) (by decide)).mpr ⟨_, z, ex⟩)
        rw [if_neg n3, e1, jk_cI]
  · rw [if_neg c0]
    refine ⟨e', fun d => ?_, e2, e3⟩
    unfold jp_four at c0
    rw [je_41, if_pos C.is]
    by_cases c1 : k < 0
    · rw [if_pos c1, e1, jk_cI]
    · rw [if_neg c1] at c0 ⊢
      by_cases c2 : k < 4
      · exact absurd (if_pos c2) c0
      · rw [if_pos (by rw [Int32.le_iff_toInt_le]; rw [Int32.lt_iff_toInt_lt] at c2; omega), e1, jk_cI]
theorem aa_reach (A : AWt σ) (k n : Int32) : AWt (op_reach σ k n).2 := by
  unfold op_reach
  split
  · split
    · split
      · split
        · exact A
        · exact aa_er A
      · exact aa_er A
    · exact aa_er A
  · exact aa_er A
end
