/-! WU: the class's call; the reference -/
noncomputable def op_wu (σ : jSt) (x : Int32) : Int32 × jSt := if jp_part x = true then ((if x = 0 then Int32.ofNat (2 ^ (bc (sF σ).2.2 - (wu_E (sF σ)).2)) else wu_L (wu_E (sF σ)).1 (wu_E (sF σ)).2), σ) else er σ 1
theorem wu_J (f : jF) : ∃ pv, el_J (wu_row f) 12 (wu_E f).1 (wu_E f).2 pv := by
  obtain ⟨pv, J⟩ := el_J_all 12 0 (wu_row f) 0 (fun _ => 0) (el_J_0 _)
  exact ⟨pv, J⟩
theorem bit_pow {n : Nat} (h : n ≤ 12) : (1 : Int32) <<< (Int32.ofNat n &&& 31) = Int32.ofNat (2 ^ n) := by
  have k : ∀ n : Nat, n ≤ 12 → (1 : Int32) <<< (Int32.ofNat n &&& 31) = Int32.ofNat (2 ^ n) := by decide
  exact k n h
section
variable {rc : Nat → Nat × (Nat → Int32)} {h h' : jxH} {a b : Nat} {f : jF} {w : wrW} {R : Nat → Int32} {x y : Int32} {σ : jSt}
theorem max0 (n : Nat) (hn : n < 2 ^ 31) (d : Nat) : jx_C rc (d + 1) 330 [.int (0 : Int32), .int (Int32.ofNat n)] h = some (some (.int (Int32.ofNat n)), h) := by
  rw [je_330]
  by_cases z : n = 0
  · rw [z]; rfl
  · rw [if_pos (by rw [show (0 : Int32) = Int32.ofNat 0 from rfl, jk_lt (by decide) hn]; omega)]
theorem wr_least {k : Nat} {pv : Nat → Nat} (J : el_J (wu_row f) 12 R k pv) : ∀ (m i : Nat) (h : jxH), i + m = k → wr_at h a w R x (wu_L R i) → ∃ h', (∀ d, jb_261 rc (d + 1) 2 [(0, .ref a), (1, .int (Int32.ofNat k)), (2, .int (Int32.ofNat i))] [] h = some (none, h')) ∧ wr_at h' a w R x (wu_L R k) ∧ Fr (jWr a) h h'
  | 0, i, h, e, H => by
    obtain rfl : i = k := by omega
    have := J.2.2.2.2.2
    refine ⟨h, fun d => ?_, H, Fr.rfl⟩
    rw [je_261_2, if_pos (by rw [jk_le (by omega) (by omega)]; omega)]
  | m + 1, i, h, e, H => by
    have k12 := J.2.2.2.2.2
    have hi : i < 12 := by omega
    have l := wu_lo J (show i < k by omega)
    have p12 := (J.2.2.2.1 i (by omega)).1
    have st : ∀ d, jb_261 rc (d + 1) 2 [(0, .ref a), (1, .int (Int32.ofNat k)), (2, .int (Int32.ofNat i))] [] h = _ := fun d => by
      rw [je_261_2, if_neg (by rw [jk_le (by omega) (by omega)]; omega), if_neg (jk_n12 hi), wr_g3 H, jk_bs, wr_row H hi, jk_bs, show (12 : Int32) = Int32.ofNat 12 from rfl, bt_sr _ (show 12 < 32 by decide), jk_if0]
    by_cases z : bt (R i) 12 = true
    · have eL : wu_L R (i + 1) = wu_L R i ||| jk_bit (pv i) := by
        show (if bt (R i) 12 = true then _ else _) = _
        rw [if_pos z, l]; rfl
      obtain ⟨s1, s2, s3⟩ := wr_s11 H (wu_L R i ||| jk_bit (pv i))
      rw [← eL] at s2
      obtain ⟨h1, r1, r2, r3⟩ := wr_least J m (i + 1) _ (by omega) s2
      rw [← eL] at s3
      refine ⟨h1, fun d => ?_, r2, s3.trans r3⟩
      rw [st d, if_pos z, wr_g11 H, jk_bs, jk_bs, wr_row H hi, jk_bs, cl_leastOf, jk_cI, l, show jk_on (some (pv i)) = Int32.ofNat (pv i) from rfl, max0 _ (by omega), jk_cI]
      have s1' : jx_pF (jx_at h a) 2 11 (.int (wu_L R i ||| ((1 : Int32) <<< (Int32.ofNat (pv i) &&& 31)))) = some (wr_o a w x (wu_L R i ||| jk_bit (pv i))) := s1
      rw [s1', jk_bs, jk_succ, ← eL]
      exact r1 d
    · have eL : wu_L R (i + 1) = wu_L R i := by
        show (if bt (R i) 12 = true then _ else _) = _
        rw [if_neg z]
      obtain ⟨h1, r1, r2, r3⟩ := wr_least J m (i + 1) h (by omega) (by rw [eL]; exact H)
      refine ⟨h1, fun d => ?_, r2, r3⟩
      rw [st d, if_neg z, jk_succ]
      exact r1 d
theorem wr_fill (hb : b + 3 ≤ a ∨ a + 8 ≤ b) : ∀ (m p : Nat) (h : jxH) (R : Nat → Int32), p + m = 12 → fo_at h b f → (∀ i, i < p → R i = wu_row f i) → wr_at h a w R x y → ∃ h', (∀ d, jb_258 rc (d + 1) 2 [(0, .ref a), (1, .ref b), (2, .int (Int32.ofNat p))] [] h = jb_258 rc (d + 1) 2 [(0, .ref a), (1, .ref b), (2, .int (Int32.ofNat 12))] [] h') ∧ fo_at h' b f ∧ wr_at h' a w (wu_row f) x y ∧ Fr (jWr a) h h'
  | 0, p, h, R, e, G, q, H => by
    obtain rfl : p = 12 := by omega
    exact ⟨h, fun d => rfl, G, wr_congr H q, Fr.rfl⟩
  | m + 1, p, h, R, e, G, q, H => by
    have hp : p < 12 := by omega
    obtain ⟨e1, s1, s2, s3⟩ := wr_set H hp (wu_row f p)
    have G1 := fo_fr s3 (fun x x1 x2 z => by unfold jWr at z; omega) G
    obtain ⟨h1, r1, r2, r3, r4⟩ := wr_fill hb m (p + 1) _ _ (by omega) G1 (fun i hi => by
      unfold upd
      by_cases z : i = p
      · rw [if_pos z, z]
      · rw [if_neg z]; exact q i (by omega)) s2
    refine ⟨h1, fun d => ?_, r2, r3, s3.trans r4⟩
    have s1' : jx_sI (jx_at h (a + 7)) 0 (Int32.ofNat p) ((f.2.1 p ||| ((f.1 p &&& (1 : Int32)) <<< (Int32.ofNat p &&& 31))) ||| ((f.1 p &&& (1 : Int32)) <<< ((12 : Int32) &&& 31))) = some e1 := s1
    rw [je_258_2, if_neg (jk_n12 hp), fo_weightAt G, jk_cI, wr_g3 H, jk_bs, fo_nearsAt G, jk_cI, jF_w_of hp, jF_n_of hp, s1', jk_bs, jk_succ]
    exact r1 d
theorem wr_solve (B : jf_B f) (G : fo_at h b f) (hb : b + 3 ≤ a ∨ a + 8 ≤ b) (H : wr_at h a w R x y) : ∃ h', (∀ d, jx_C rc (d + 5) 258 [.ref a, .ref b] h = some (none, h')) ∧ wr_at h' a w (wu_E f).1 (Int32.ofNat (bc f.2.2 - (wu_E f).2)) (wu_L (wu_E f).1 (wu_E f).2) ∧ Fr (jWr a) h h' := by
  obtain ⟨pv, J⟩ := wu_J f
  have k12 := J.2.2.2.2.2
  have kb := (wu_cnt B J).2
  have b12 := bc_le f.2.2
  obtain ⟨h1, r1, r2, r3, r4⟩ := wr_fill (rc := rc) hb 12 0 h R rfl G (fun i hi => by omega) H
  obtain ⟨s1, s2, s3⟩ := wr_s11 r3 0
  obtain ⟨h2, t1, t2, t3⟩ := wr_el (rc := rc) (b := b) 12 0 (wu_row f) 0 _ rfl (by omega) s2
  have G2 : fo_at h2 b f := fo_fr t3 (fun x x1 x2 z => by unfold jWr at z; omega) (fo_fr s3 (fun x x1 x2 z => by unfold jWr at z; omega) r2)
  obtain ⟨u1, u2, u3⟩ := wr_s10 t2 (Int32.ofNat (bc f.2.2 - (wu_E f).2))
  obtain ⟨h3, v1, v2, v3⟩ := wr_least (rc := rc) J (wu_E f).2 0 _ (by omega) u2
  refine ⟨h3, fun d => ?_, v2, r4.trans (s3.trans (t3.trans (u3.trans v3)))⟩
  have r1' := r1 (d + 3)
  have t1' := t1 (d + 1)
  have is3 := wr_is u2
  rw [je_258, if_pos (wr_is H)]
  refine r1'.trans ?_
  rw [je_258_2, if_pos (by decide), s1, jk_bs]
  refine Eq.trans t1' ?_
  show jb_258 rc (d + 1 + 3) 35 [(0, .ref a), (1, .ref b), (2, .int (Int32.ofNat (wu_E f).2)), (3, .int (Int32.ofNat 12))] [] h2 = _
  rw [je_258_35, if_pos (by decide), fo_size G2 B.s, jk_cI, jk_subN kb, max0 _ (by omega), jk_cI, u1, jk_bs, je_261, if_pos is3]
  have v1' := v1 (d + 2)
  have v1'' : jb_261 rc (d + 3) 2 [(0, .ref a), (1, .int (Int32.ofNat (wu_E f).2)), (2, .int (0 : Int32))] [] (jx_set h2 a (wr_o a w (Int32.ofNat (bc f.2.2 - (wu_E f).2)) 0)) = some (none, h3) := v1'
  rw [v1'', jk_cV]
theorem rk_wr (K : rk_ok h a) : ∃ w R x y, wr_at h a w R x y := by
  obtain ⟨⟨u, l, i1, i2, i3, i4, i5, i6, o⟩, -, -, -, g, e⟩ := K
  exact ⟨(u, l, i1, i2, i3, i4), g, i5, i6, o, g, e, fun i hi => rfl⟩
theorem wr_rk (K : rk_ok h a) (F : Fr (jWr a) h h') (H : wr_at h' a w R x y) : rk_ok h' a := by
  obtain ⟨-, k2, ⟨g3, k3⟩, ⟨g4, k4⟩, -⟩ := K
  have n : ∀ x, x ≠ a → x ≠ a + 7 → ¬ jWr a x := fun x h1 h2 z => by unfold jWr at z; omega
  obtain ⟨o, g, e, -⟩ := H
  exact ⟨⟨_, _, _, _, _, _, _, _, o⟩, wk_fr F (fun x x1 x2 => n x (by omega) (by omega)) k2, ⟨g3, (F.2.2 _ (n _ (by omega) (by omega))).trans k3⟩, ⟨g4, (F.2.2 _ (n _ (by omega) (by omega))).trans k4⟩, g, e⟩
theorem cc_wu (C : CSt h σ) (A : AWt σ) (x : Int32) : ∃ h', (∀ d, jx_C rc (d + 20) 18 [.ref 0, .int x] h = some (some (.int (op_wu σ x).1), h')) ∧ CSt h' (op_wu σ x).2 ∧ cF h h' := by
  unfold op_wu
  by_cases c0 : jp_part x = true
  · rw [if_pos c0]
    have K := C.scr.2.2.2.1
    obtain ⟨w, R, x', y, H⟩ := rk_wr K
    obtain ⟨h1, r1, r2, r3⟩ := wr_solve (rc := rc) A.B C.F (by omega) H
    have b12 := bc_le (sF σ).2.2
    obtain ⟨C1, F1⟩ := cc_rk C A (r3.mono fun x hx => by unfold jWr at hx; exact ⟨by omega, by omega⟩) (wr_rk K r3 r2)
    refine ⟨h1, fun d => ?_, C1, F1⟩
    rw [je_18, if_pos C.is, cl_isPart, jk_cI, jk_if0, if_pos c0, C.g6, jk_bs, C.g1, jk_bs, r1, jk_cV]
    by_cases z : x = 0
    · rw [if_pos z, if_pos z, C1.g6, jk_bs, wr_g10 r2, jk_bs, bit_pow (by omega)]
    · rw [if_neg z, if_neg z, C1.g6, jk_bs, wr_g11 r2, jk_bs]
  · rw [if_neg c0]
    obtain ⟨e', e1, e2, e3⟩ := cc_refuse (rc := rc) C A (k := 1) (by decide) (by decide) (K := 1) rfl
    refine ⟨e', fun d => ?_, e2, e3⟩
    rw [je_18, if_pos C.is, cl_isPart, jk_cI, jk_if0, if_neg c0, e1, jk_cI]
theorem aa_wu (A : AWt σ) (x : Int32) : AWt (op_wu σ x).2 := by
  unfold op_wu
  split
  · exact A
  · exact aa_er A
end
