/-! The class: the forest by hand, minors -/
def op_vertex (σ : jSt) (w : Int32) : Int32 × jSt := if jp_wt w = true then (if 12 ≤ bc (sF σ).2.2 then er σ 4 else (Int32.ofNat (jf_free (sF σ)), hand σ (jf_grow (sF σ) (jf_free (sF σ)) w))) else er σ 1
def op_weigh (σ : jSt) (p w : Int32) : Int32 × jSt := if jF_has (sF σ) p = true then (if jp_wt w = true then ((sF σ).1 (pn p), hand σ (jf_setw (sF σ) (pn p) w)) else er σ 1) else er σ 1
def op_tie (σ : jSt) (p q : Int32) : Int32 × jSt := if jF_has (sF σ) p = true then (if jF_has (sF σ) q = true then (if bt (jt_T (sF σ) (pn p)) (pn q) = true then er σ 3 else (jF_trees (jf_join (sF σ) (pn p) (pn q)), hand σ (jf_join (sF σ) (pn p) (pn q)))) else er σ 1) else er σ 1
def op_cut (σ : jSt) (p q : Int32) : Int32 × jSt := if jF_has (sF σ) p = true then (if jF_has (sF σ) q = true then (if bt ((sF σ).2.1 (pn p)) (pn q) = true then (jF_trees (jf_part (sF σ) (pn p) (pn q)), hand σ (jf_part (sF σ) (pn p) (pn q))) else er σ 2) else er σ 1) else er σ 1
def op_take (σ : jSt) (p : Int32) : Int32 × jSt := if jF_has (sF σ) p = true then ((sF σ).1 (pn p), hand σ (jf_rem (sF σ) (pn p))) else er σ 1
def op_table (σ : jSt) (p q : Int32) : Int32 × jSt := if jF_has (sF σ) p = true then (if jF_has (sF σ) q = true then (if p = q then ((sF σ).1 (pn p), σ) else (jk_b (bt ((sF σ).2.1 (pn p)) (pn q)), σ)) else er σ 1) else er σ 1
def op_minor (σ : jSt) (s : Int32) : Int32 × jSt := if s &&& ((sF σ).2.2 ^^^ (-1)) = 0 then op_tell σ (Int64.ofInt (MP (sF σ) s)) else er σ 1
def op_det (σ : jSt) : Int32 × jSt := op_tell σ (Int64.ofInt (MP (sF σ) (sF σ).2.2))
section
variable {rc : Nat → Nat × (Nat → Int32)} {h : jxH} {σ : jSt}
theorem c_scr2 {P : Nat → Prop} {h' : jxH} (F : Fr P h h') (hP : ∀ x, P x → 2 ≤ x ∧ x < 5) (C : CSt h σ) : c_scr h' := scr_fr F (fun x a q => by have := hP x q; unfold c_scrP at a; omega) C.scr
theorem jI23 {x : Nat} (h : jI 2 3 x) : (2 ≤ x ∧ x < 5) ∨ c_scrP x := Or.inl ⟨h.1, by have := h.2; omega⟩
theorem cFid : cF h h := cF.of (P := fun _ => False) Fr.rfl (fun _ q => q.elim)
theorem cc_F {g g' : jF} {h' : jxH} (C : CSt h (hand σ g)) (F : Fr (jI 2 3) h h') (G : fo_at h' 2 g') : CSt h' (hand σ g') := by
  have C3 := C.tr
  obtain ⟨o, ⟨Q, q1, q2⟩, s, k⟩ := C3
  refine CS_tr (t' := tr_0 σ.2.1 g') C F (fun x q => ⟨q.1, by have := q.2; omega⟩) G ⟨(F.2.2 12 (fun q => by have := q.2; omega)).trans o, ⟨Q, (F.2.2 13 (fun q => by have := q.2; omega)).trans q1, q2⟩, fun i hi => sk_fr F (fun x a b q => by have := q.2; omega) (s i hi), fun i hi => absurd hi (Nat.not_lt_zero i)⟩ (scr_fr F (fun x a q => by unfold jI at q; unfold c_scrP at a; omega) C.scr)
theorem cc_vertex (C : CSt h σ) (A : AWt σ) (w : Int32) : ∃ h', (∀ d, jx_C rc (d + 20) 1 [.ref 0, .int w] h = some (some (.int (op_vertex σ w).1), h')) ∧ CSt h' (op_vertex σ w).2 ∧ cF h h' := by
  unfold op_vertex
  by_cases c1 : jp_wt w = true
  · rw [if_pos c1]
    by_cases c2 : 12 ≤ bc (sF σ).2.2
    · rw [if_pos c2]
      obtain ⟨h', r1, r2, r3⟩ := cc_refuse (rc := rc) C A (k := 4) (by decide) (by decide) (K := 4) rfl
      refine ⟨h', fun d => ?_, r2, r3⟩
      rw [je_1, if_pos C.is, cl_isWeight, jk_cI, jk_if0, if_pos c1, C.g1, jk_bs, fo_size C.F A.B.s, jk_cI, if_neg (by rw [show (12 : Int32) = Int32.ofNat 12 from rfl, jk_lt (by have := bc_le (sF σ).2.2; omega) (by decide)]; omega), r1, jk_cI]
    · rw [if_neg c2]
      obtain ⟨c, hc⟩ := bc_free (x := (sF σ).2.2) (by omega)
      rw [jf_free_of hc]
      obtain ⟨h1, r1, r2, r3, r4, r5⟩ := cc_hand (rc := rc) (h1 := h) C A (P := fun _ => False) Fr.rfl (fun _ q => q.elim) C.F C.scr
      obtain ⟨h2, s1, s2, s3⟩ := fo_grow (rc := rc) r5 hc w
      refine ⟨h2, fun d => ?_, cc_F r2 s3 s2, r3.then s3 (fun x q => by have := q.2; omega)⟩
      rw [je_1, if_pos C.is, cl_isWeight, jk_cI, jk_if0, if_pos c1, C.g1, jk_bs, fo_size C.F A.B.s, jk_cI, if_pos (by rw [show (12 : Int32) = Int32.ofNat 12 from rfl, jk_lt (by omega) (by decide)]; omega), C.g4, jk_bs, r1, jk_cV, r2.g1, jk_bs, s1, jk_cI]
  · rw [if_neg c1]
    obtain ⟨h', r1, r2, r3⟩ := cc_refuse (rc := rc) C A (k := 1) (by decide) (by decide) (K := 1) rfl
    refine ⟨h', fun d => ?_, r2, r3⟩
    rw [je_1, if_pos C.is, cl_isWeight, jk_cI, jk_if0, if_neg c1, r1, jk_cI]
theorem cc_weigh (C : CSt h σ) (A : AWt σ) (p w : Int32) : ∃ h', (∀ d, jx_C rc (d + 20) 2 [.ref 0, .int p, .int w] h = some (some (.int (op_weigh σ p w).1), h')) ∧ CSt h' (op_weigh σ p w).2 ∧ cF h h' := by
  unfold op_weigh
  obtain ⟨e', e1, e2, e3⟩ := cc_refuse (rc := rc) C A (k := 1) (by decide) (by decide) (K := 1) rfl
  by_cases c0 : jF_has (sF σ) p = true
  · rw [if_pos c0]
    by_cases c1 : jp_wt w = true
    · rw [if_pos c1]
      obtain ⟨k, hk, rfl, hb⟩ := jF_has_iff.mp c0
      rw [pn_of hk]
      obtain ⟨h1, s1, s2, s3⟩ := fo_setWeight (rc := rc) C.F hk hb w
      obtain ⟨h2, r1, r2, r3, r4, r5⟩ := cc_hand (rc := rc) C A s3 (fun x q => jI23 q) s2 (c_scr2 s3 (fun x q => ⟨q.1, by have := q.2; omega⟩) C)
      have o1 : jx_at h1 0 = jx_at h 0 := s3.2.2 0 (fun q => by have := q.1; omega)
      refine ⟨h2, fun d => ?_, r2, r3⟩
      rw [je_2, if_pos C.is, C.g1, jk_bs, fo_has C.F, jk_cI, jk_if0, if_pos c0, cl_isWeight, jk_cI, jk_if0, if_pos c1, C.g1, jk_bs, fo_weightAt C.F, jk_cI, C.g1, jk_bs, s1, jk_cV, o1, C.g4, jk_bs, r1, jk_cV, jF_w_of hk]
    · rw [if_neg c1]
      refine ⟨e', fun d => ?_, e2, e3⟩
      rw [je_2, if_pos C.is, C.g1, jk_bs, fo_has C.F, jk_cI, jk_if0, if_pos c0, cl_isWeight, jk_cI, jk_if0, if_neg c1, e1, jk_cI]
  · rw [if_neg c0]
    refine ⟨e', fun d => ?_, e2, e3⟩
    rw [je_2, if_pos C.is, C.g1, jk_bs, fo_has C.F, jk_cI, jk_if0, if_neg c0, e1, jk_cI]
theorem cc_cut (C : CSt h σ) (A : AWt σ) (p q : Int32) : ∃ h', (∀ d, jx_C rc (d + 20) 4 [.ref 0, .int p, .int q] h = some (some (.int (op_cut σ p q).1), h')) ∧ CSt h' (op_cut σ p q).2 ∧ cF h h' := by
  unfold op_cut
  obtain ⟨e', e1, e2, e3⟩ := cc_refuse (rc := rc) C A (k := 1) (by decide) (by decide) (K := 1) rfl
  by_cases c0 : jF_has (sF σ) p = true
  · rw [if_pos c0]
    by_cases c1 : jF_has (sF σ) q = true
    · rw [if_pos c1]
      obtain ⟨k, hk, rfl, hb⟩ := jF_has_iff.mp c0
      obtain ⟨j, hj, rfl, hb'⟩ := jF_has_iff.mp c1
      rw [pn_of hk, pn_of hj]
      by_cases c2 : bt ((sF σ).2.1 k) j = true
      · rw [if_pos c2]
        obtain ⟨h1, s1, s2, s3⟩ := fo_part (rc := rc) C.F hk hj
        obtain ⟨h2, r1, r2, r3, r4, r5⟩ := cc_hand (rc := rc) C A s3 (fun x q => jI23 q) s2 (c_scr2 s3 (fun x q => ⟨q.1, by have := q.2; omega⟩) C)
        have o1 : jx_at h1 0 = jx_at h 0 := s3.2.2 0 (fun q => by have := q.1; omega)
        have B2 := (jf_W_part A.W hk hj).1
        refine ⟨h2, fun d => ?_, r2, r3⟩
        rw [je_4, if_pos C.is, C.g1, jk_bs, fo_has C.F, jk_cI, jk_if0, if_pos c0, C.g1, jk_bs, fo_has C.F, jk_cI, jk_if0, if_pos c1, C.g1, jk_bs, fo_areNear C.F, jk_cI, jF_near_of hk hj, jk_if0, if_pos c2, C.g1, jk_bs, s1, jk_cV, o1, C.g4, jk_bs, r1, jk_cV, r2.g1, jk_bs, fo_trees r5 B2.s B2.n, jk_cI]
      · rw [if_neg c2]
        obtain ⟨e', e1, e2, e3⟩ := cc_refuse (rc := rc) C A (k := 2) (by decide) (by decide) (K := 2) rfl
        refine ⟨e', fun d => ?_, e2, e3⟩
        rw [je_4, if_pos C.is, C.g1, jk_bs, fo_has C.F, jk_cI, jk_if0, if_pos c0, C.g1, jk_bs, fo_has C.F, jk_cI, jk_if0, if_pos c1, C.g1, jk_bs, fo_areNear C.F, jk_cI, jF_near_of hk hj, jk_if0, if_neg c2, e1, jk_cI]
    · rw [if_neg c1]
      refine ⟨e', fun d => ?_, e2, e3⟩
      rw [je_4, if_pos C.is, C.g1, jk_bs, fo_has C.F, jk_cI, jk_if0, if_pos c0, C.g1, jk_bs, fo_has C.F, jk_cI, jk_if0, if_neg c1, e1, jk_cI]
  · rw [if_neg c0]
    refine ⟨e', fun d => ?_, e2, e3⟩
    rw [je_4, if_pos C.is, C.g1, jk_bs, fo_has C.F, jk_cI, jk_if0, if_neg c0, e1, jk_cI]
theorem cc_take (C : CSt h σ) (A : AWt σ) (p : Int32) : ∃ h', (∀ d, jx_C rc (d + 20) 5 [.ref 0, .int p] h = some (some (.int (op_take σ p).1), h')) ∧ CSt h' (op_take σ p).2 ∧ cF h h' := by
  unfold op_take
  by_cases c0 : jF_has (sF σ) p = true
  · rw [if_pos c0]
    obtain ⟨k, hk, rfl, hb⟩ := jF_has_iff.mp c0
    rw [pn_of hk]
    obtain ⟨h1, s1, s2, s3⟩ := fo_remove (rc := rc) C.F hk hb
    obtain ⟨h2, r1, r2, r3, r4, r5⟩ := cc_hand (rc := rc) C A s3 (fun x q => jI23 q) s2 (c_scr2 s3 (fun x q => ⟨q.1, by have := q.2; omega⟩) C)
    have o1 : jx_at h1 0 = jx_at h 0 := s3.2.2 0 (fun q => by have := q.1; omega)
    refine ⟨h2, fun d => ?_, r2, r3⟩
    rw [je_5, if_pos C.is, C.g1, jk_bs, fo_has C.F, jk_cI, jk_if0, if_pos c0, C.g1, jk_bs, fo_weightAt C.F, jk_cI, C.g1, jk_bs, s1, jk_cV, o1, C.g4, jk_bs, r1, jk_cV, jF_w_of hk]
  · rw [if_neg c0]
    obtain ⟨e', e1, e2, e3⟩ := cc_refuse (rc := rc) C A (k := 1) (by decide) (by decide) (K := 1) rfl
    refine ⟨e', fun d => ?_, e2, e3⟩
    rw [je_5, if_pos C.is, C.g1, jk_bs, fo_has C.F, jk_cI, jk_if0, if_neg c0, e1, jk_cI]
theorem cc_table (C : CSt h σ) (A : AWt σ) (p q : Int32) : ∃ h', (∀ d, jx_C rc (d + 20) 7 [.ref 0, .int p, .int q] h = some (some (.int (op_table σ p q).1), h')) ∧ CSt h' (op_table σ p q).2 ∧ cF h h' := by
  unfold op_table
  obtain ⟨e', e1, e2, e3⟩ := cc_refuse (rc := rc) C A (k := 1) (by decide) (by decide) (K := 1) rfl
  by_cases c0 : jF_has (sF σ) p = true
  · rw [if_pos c0]
    by_cases c1 : jF_has (sF σ) q = true
    · rw [if_pos c1]
      obtain ⟨k, hk, rfl, hb⟩ := jF_has_iff.mp c0
      obtain ⟨j, hj, rfl, hb'⟩ := jF_has_iff.mp c1
      rw [pn_of hk, pn_of hj]
      by_cases c2 : Int32.ofNat k = Int32.ofNat j
      · rw [if_pos c2]
        refine ⟨h, fun d => ?_, C, cFid⟩
        rw [je_7, if_pos C.is, C.g1, jk_bs, fo_has C.F, jk_cI, jk_if0, if_pos c0, C.g1, jk_bs, fo_has C.F, jk_cI, jk_if0, if_pos c1, if_pos c2, C.g1, jk_bs, fo_weightAt C.F, jk_cI, jF_w_of hk]
      · rw [if_neg c2]
        refine ⟨h, fun d => ?_, C, cFid⟩
        rw [je_7, if_pos C.is, C.g1, jk_bs, fo_has C.F, jk_cI, jk_if0, if_pos c0, C.g1, jk_bs, fo_has C.F, jk_cI, jk_if0, if_pos c1, if_neg c2, C.g1, jk_bs, fo_areNear C.F, jk_cI, jF_near_of hk hj, jk_if0]
        cases bt ((sF σ).2.1 k) j <;> rfl
    · rw [if_neg c1]
      refine ⟨e', fun d => ?_, e2, e3⟩
      rw [je_7, if_pos C.is, C.g1, jk_bs, fo_has C.F, jk_cI, jk_if0, if_pos c0, C.g1, jk_bs, fo_has C.F, jk_cI, jk_if0, if_neg c1, e1, jk_cI]
  · rw [if_neg c0]
    refine ⟨e', fun d => ?_, e2, e3⟩
    rw [je_7, if_pos C.is, C.g1, jk_bs, fo_has C.F, jk_cI, jk_if0, if_neg c0, e1, jk_cI]
/-- the reckoner alone has written -/
theorem c_scr_rk {h' : jxH} (F : Fr (jI 178 8) h h') (K : rk_ok h' 178) (C : c_scr h) : c_scr h' := by
  obtain ⟨⟨f, g⟩, s, w, r, p, t, e⟩ := C
  have n : ∀ x, ¬ (178 ≤ x ∧ x < 186) → ¬ jI 178 8 x := fun x a b => a ⟨b.1, by have := b.2; omega⟩
  exact ⟨⟨f, fo_fr F (fun x a b => n x (by omega)) g⟩, sk_fr F (fun x a b => n x (by omega)) s, wk_fr F (fun x a b => n x (by omega)) w, K, sp_fr F (fun x a b => n x (by omega)) p, tx_fr F (fun x a b => n x (by omega)) t, se_fr F (fun x a b => n x (by omega)) e⟩
theorem cc_rk {h' : jxH} (C : CSt h σ) (A : AWt σ) (F : Fr (jI 178 8) h h') (K : rk_ok h' 178) : CSt h' σ ∧ cF h h' :=
  ⟨CS_scr A.tr.2.1 C F (fun x q => Or.inr ⟨by have := q.1; omega, by have := q.2; omega⟩) (c_scr_rk F K C.scr), cF.of F (fun x q => by have := q.2; omega)⟩
theorem cF.trans0 {h1 h' : jxH} (F : cF h h1) (h0 : h1.1 = h.1 ∧ h1.2.1 = h.2.1) (G : cF h1 h') : cF h h' :=
  ⟨by rw [← h0.1]; exact G.1, by rw [← h0.1]; exact G.2.1, by rw [← h0.2]; exact G.2.2.1, fun x a b => (G.2.2.2 x a b).trans (F.2.2.2 x a b)⟩
theorem sub_V (A : AWt σ) {s : Int32} (hs : sub s (sF σ).2.2) : ∀ x, bt s x = true → x < 12 ∧ bt (sF σ).2.2 x = true := fun x hx => by
  have := hs x hx
  refine ⟨?_, this⟩
  apply Classical.byContradiction; intro z
  rw [A.B.s x (by omega)] at this; cases this
theorem cc_minor (C : CSt h σ) (A : AWt σ) (s : Int32) : ∃ h', (∀ d, jx_C rc (d + 20) 13 [.ref 0, .int s] h = some (some (.int (op_minor σ s).1), h')) ∧ CSt h' (op_minor σ s).2 ∧ cF h h' := by
  unfold op_minor
  by_cases c0 : s &&& ((sF σ).2.2 ^^^ (-1)) = 0
  · rw [if_pos c0]
    obtain ⟨h1, r1, r2, r3, r4⟩ := rk_minorOf (rc := rc) (a := 178) C.scr.2.2.2.1 C.F A.W (by omega) (sub_V A (sub_iff.mp c0))
    obtain ⟨C1, F1⟩ := cc_rk C A (r4.mono fun x q => ⟨by have := q.1; omega, by have := q.2; omega⟩) r2
    obtain ⟨h2, s1, s2, s3⟩ := cc_tell (rc := rc) C1 A (Int64.ofInt (MP (sF σ) s))
    refine ⟨h2, fun d => ?_, s2, F1.trans0 ⟨r4.1, r4.2.1⟩ s3⟩
    rw [je_13, if_pos C.is, C.g1, jk_bs, fo_g2 C.F, jk_bs, if_pos c0, C.g6, jk_bs, jk_bs, r1, jk_cL, s1, jk_cI]
  · rw [if_neg c0]
    obtain ⟨e', e1, e2, e3⟩ := cc_refuse (rc := rc) C A (k := 1) (by decide) (by decide) (K := 1) rfl
    refine ⟨e', fun d => ?_, e2, e3⟩
    rw [je_13, if_pos C.is, C.g1, jk_bs, fo_g2 C.F, jk_bs, if_neg c0, e1, jk_cI]
theorem cc_det (C : CSt h σ) (A : AWt σ) : ∃ h', (∀ d, jx_C rc (d + 20) 14 [.ref 0] h = some (some (.int (op_det σ).1), h')) ∧ CSt h' (op_det σ).2 ∧ cF h h' := by
  unfold op_det
  obtain ⟨h1, r1, r2, r3, r4⟩ := rk_minorOf (rc := rc) (a := 178) C.scr.2.2.2.1 C.F A.W (by omega) (sub_V A (fun _ q => q))
  obtain ⟨C1, F1⟩ := cc_rk C A (r4.mono fun x q => ⟨by have := q.1; omega, by have := q.2; omega⟩) r2
  obtain ⟨h2, s1, s2, s3⟩ := cc_tell (rc := rc) C1 A (Int64.ofInt (MP (sF σ) (sF σ).2.2))
  refine ⟨h2, fun d => ?_, s2, F1.trans0 ⟨r4.1, r4.2.1⟩ s3⟩
  rw [je_14, if_pos C.is, C.g6, jk_bs, C.g1, jk_bs, jk_bs, fo_g2 C.F, jk_bs, r1, jk_cL, s1, jk_cI]
end
