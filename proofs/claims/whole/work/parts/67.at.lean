/-! at(), tie(); what of DOWN, ABSORB, SPLIT can be; the farthest -/
theorem fi_is {P : Nat → Bool} : ∀ {m k j : Nat}, k ≤ j → j < k + m → P j = true → (∀ i, k ≤ i → i < j → P i = false) → fi P m k = some j
  | 0, k, j, h1, h2, _, _ => by omega
  | m + 1, k, j, h1, h2, h3, h4 => by
    unfold fi
    by_cases q : k = j
    · subst q; rw [if_pos h3]
    · rw [if_neg (by rw [h4 k (Nat.le_refl _) (by omega)]; decide)]
      exact fi_is (by omega) (by omega) h3 (fun i a b => h4 i (by omega) b)
def jt_ecc (f : jF) (p : Nat) : Nat := (fi (fun k => decide (jt_L f p (k + 1) = jt_L f p k)) 12 0).getD 0
theorem jt_ecc_is {f : jF} {p k : Nat} (hk : k < 12) (h1 : jt_L f p (k + 1) = jt_L f p k) (h2 : ∀ j, j < k → jt_L f p (j + 1) ≠ jt_L f p j) : jt_ecc f p = k := by
  unfold jt_ecc
  rw [fi_is (j := k) (by omega) (by omega) (by simpa using h1) (fun i _ hi => by simpa using h2 i hi)]
  rfl
def jn_pos (f : jF) (p : Nat) : Int32 := if jf_ref f false (0, Int32.ofNat p, 0, 0, 0) = 0 then 0 else if jf_ref f false (4, Int32.ofNat p, 0, 0, 0) = 0 then 4 else if jf_ref f false (5, Int32.ofNat p, 0, 0, 0) = 0 then 5 else -1
/-- the one of DOWN, ABSORB, SPLIT that may be there -/
def jn_sk (f : jF) (p : Nat) : Int32 := if f.1 p = 0 then (if bc (f.2.1 p) = 1 then 5 else 4) else 0
theorem jn_sk_3 (f : jF) (p : Nat) : jn_3 (jn_sk f p) := by
  unfold jn_sk
  split
  · split
    · exact Or.inr (Or.inr rfl)
    · exact Or.inr (Or.inl rfl)
  · exact Or.inl rfl
theorem jn_pos_sk {f : jF} {p : Nat} (hp : p < 12) : jn_pos f p = if jf_ref f false (jn_sk f p, Int32.ofNat p, 0, 0, 0) = 0 then jn_sk f p else -1 := by
  have u : ∀ {q : Nat}, q < 12 → Int32.ofNat p = Int32.ofNat q → p = q := fun hq e => (jk_inj (by omega) (by omega)).mp e
  have d0 : jf_ref f false (0, Int32.ofNat p, 0, 0, 0) = 0 → f.1 p ≠ 0 := fun e => by
    obtain ⟨q, hq, e1, -, e2, -⟩ := jf_ref_0 e rfl
    rw [u hq e1]
    rcases e2 with e2 | e2 <;> rw [e2] <;> decide
  have d4 : jf_ref f false (4, Int32.ofNat p, 0, 0, 0) = 0 → f.1 p = 0 ∧ bc (f.2.1 p) = 2 := fun e => by
    obtain ⟨q, hq, e1, -, e2, e3⟩ := jf_ref_4 e rfl
    rw [u hq e1]; exact ⟨e2, e3⟩
  have d5 : jf_ref f false (5, Int32.ofNat p, 0, 0, 0) = 0 → f.1 p = 0 ∧ bc (f.2.1 p) = 1 := fun e => by
    obtain ⟨q, hq, e1, -, e2, e3⟩ := jf_ref_5 e rfl
    rw [u hq e1]; exact ⟨e2, e3⟩
  unfold jn_pos jn_sk
  by_cases w : f.1 p = 0
  · rw [if_neg (fun e => d0 e w), if_pos w]
    by_cases b : bc (f.2.1 p) = 1
    · rw [if_neg (fun e => by have := (d4 e).2; omega), if_pos b]
    · rw [if_neg b]
      by_cases c : jf_ref f false (4, Int32.ofNat p, 0, 0, 0) = 0
      · rw [if_pos c, if_pos c]
      · rw [if_neg c, if_neg c, if_neg (fun e => b (d5 e).2)]
  · rw [if_neg w]
    by_cases c : jf_ref f false (0, Int32.ofNat p, 0, 0, 0) = 0
    · rw [if_pos c, if_pos c]
    · rw [if_neg c, if_neg c, if_neg (fun e => w (d4 e).1), if_neg (fun e => w (d5 e).1)]
def op_at (σ : jSt) (p w : Int32) : Int32 × jSt := if jF_has (sF σ) p = true then (if w = 0 then ((sF σ).1 (pn p), σ) else if w = 1 then (Int32.ofNat (bc ((sF σ).2.1 (pn p))), σ) else if w = 2 then ((sF σ).2.1 (pn p), σ) else if w = 3 then (jt_T (sF σ) (pn p), σ) else if w = 4 then (jn_pos (sF σ) (pn p), σ) else if w = 5 then (Int32.ofNat (jt_ecc (sF σ) (pn p)), σ) else er σ 1) else er σ 1
section
variable {rc : Nat → Nat × (Nat → Int32)} {h : jxH} {a t : Nat} {f : jF} {m : jM} {sg : Int32} {σ : jSt}
/-- shrink() -/
theorem st_shrink (hr : jk_rom rc) (H : st_at h t m sg) (G : fo_at h a f) (B : jf_B f) (ht : t < a ∨ a + 3 ≤ t) {p : Nat} (hp : p < 12) : ∃ h1, (∀ d, jx_C rc (d + 6) 283 [.ref t, .ref a, .int (Int32.ofNat p)] h = some (some (.int (jk_b (decide (jf_ref f false (jn_sk f p, Int32.ofNat p, 0, 0, 0) = 0)))), h1)) ∧ st_at h1 t (jn_sk f p, Int32.ofNat p, 0, 0, 0) sg ∧ Fr (fun x => x = t) h h1 := by
  obtain ⟨h1, r1, r2, r3⟩ := st_mean (rc := rc) hr H (jn_sk f p) (Int32.ofNat p) 0 0 0
  rw [jm_norm_3 (jn_sk_3 f p)] at r2
  have G1 := fo_fr r3 (fun x q1 q2 => by omega) G
  have R := fun d => st_refusal (rc := rc) hr r2 G1 B.n B.s false d
  refine ⟨h1, fun d => ?_, r2, r3⟩
  have R0 := R d
  have fin : ∀ X : Int32, (if X = 0 then (if jx_bool (1 : Int32) = true then some (some (Value.int 1), h1) else none) else if jx_bool (0 : Int32) = true then some (some (Value.int 0), h1) else none) = some (some (Value.int (jk_b (decide (X = 0)))), h1) := fun X => by
    rw [if_pos (show jx_bool (1 : Int32) = true by simp [jx_bool]), if_pos jk_r0']
    by_cases q : X = 0
    · rw [if_pos q, decide_eq_true q]; rfl
    · rw [if_neg q, decide_eq_false q]; rfl
  rw [je_283, if_pos (st_is H), fo_weightAt G, jk_cI, jF_w_of hp]
  unfold jn_sk at r1 R0 ⊢
  by_cases w : f.1 p = 0
  · simp only [if_pos w] at r1 R0 ⊢
    rw [fo_degree G B.n, jk_cI, jF_n_of hp]
    by_cases b : bc (f.2.1 p) = 1
    · simp only [if_pos b] at r1 R0 ⊢
      rw [if_pos ((jk_eq1 _).mpr b), r1, jk_cV]
      refine (congrArg (fun z => jx_cI z _) R0).trans ?_
      rw [jk_cI]; exact fin _
    · simp only [if_neg b] at r1 R0 ⊢
      rw [if_neg (fun z => b ((jk_eq1 _).mp z)), r1, jk_cV]
      refine (congrArg (fun z => jx_cI z _) R0).trans ?_
      rw [jk_cI]; exact fin _
  · simp only [if_neg w] at r1 R0 ⊢
    rw [r1, jk_cV]
    refine (congrArg (fun z => jx_cI z _) R0).trans ?_
    rw [jk_cI]; exact fin _
/-- treeOf() -/
theorem c_scr_wk {h' : jxH} (F : Fr (jI 174 4) h h') (K : wk_ok h' 174) (C : c_scr h) : c_scr h' := by
  obtain ⟨⟨f, g⟩, s, w, r, p, t, e⟩ := C
  have n : ∀ x, ¬ (174 ≤ x ∧ x < 178) → ¬ jI 174 4 x := fun x a b => a ⟨b.1, by have := b.2; omega⟩
  exact ⟨⟨f, fo_fr F (fun x a b => n x (by omega)) g⟩, sk_fr F (fun x a b => n x (by omega)) s, K, rk_fr F (fun x a b => n x (by omega)) r, sp_fr F (fun x a b => n x (by omega)) p, tx_fr F (fun x a b => n x (by omega)) t, se_fr F (fun x a b => n x (by omega)) e⟩
theorem cc_wk {h' : jxH} (C : CSt h σ) (A : AWt σ) (F : Fr (jI 174 4) h h') (K : wk_ok h' 174) : CSt h' σ ∧ cF h h' :=
  ⟨CS_scr A.tr.2.1 C F (fun x q => Or.inr ⟨by have := q.1; omega, by have := q.2; omega⟩) (c_scr_wk F K C.scr), cF.of F (fun x q => by have := q.2; omega)⟩
theorem cc_treeOf (C : CSt h σ) (A : AWt σ) {p : Nat} (hp : p < 12) (sp : bt (sF σ).2.2 p = true) : ∃ h', (∀ d, jx_C rc (d + 4) 56 [.ref 0, .int (Int32.ofNat p)] h = some (some (.int (jt_T (sF σ) p)), h')) ∧ CSt h' σ ∧ cF h h' ∧ h'.1 = h.1 ∧ h'.2.1 = h.2.1 := by
  obtain ⟨h1, o, par, dep, sz, r1, r2, r3, r4, r5, r6, r7⟩ := wk_from (rc := rc) (a := 174) C.scr.2.2.1 C.F A.W (by omega) hp sp
  obtain ⟨C1, F1⟩ := cc_wk C A r7 (wk_okof r2)
  refine ⟨h1, fun d => ?_, C1, F1, r7.1, r7.2.1⟩
  rw [je_56, if_pos C.is, C.g5, jk_bs, C.g1, jk_bs, r1, jk_cV, C1.g5, jk_bs, wk_g4 r2, jk_bs]
theorem cc_tie (C : CSt h σ) (A : AWt σ) (p q : Int32) : ∃ h', (∀ d, jx_C rc (d + 20) 3 [.ref 0, .int p, .int q] h = some (some (.int (op_tie σ p q).1), h')) ∧ CSt h' (op_tie σ p q).2 ∧ cF h h' := by
  unfold op_tie
  obtain ⟨e', e1, e2, e3⟩ := cc_refuse (rc := rc) C A (k := 1) (by decide) (by decide) (K := 1) rfl
  by_cases c0 : jF_has (sF σ) p = true
  · rw [if_pos c0]
    by_cases c1 : jF_has (sF σ) q = true
    · rw [if_pos c1]
      obtain ⟨k, hk, rfl, hb⟩ := jF_has_iff.mp c0
      obtain ⟨j, hj, rfl, hb'⟩ := jF_has_iff.mp c1
      rw [pn_of hk, pn_of hj]
      obtain ⟨h0, t1, C0, F0, t2, t3⟩ := cc_treeOf (rc := rc) C A hk hb
      by_cases c2 : bt (jt_T (sF σ) k) j = true
      · rw [if_pos c2]
        obtain ⟨e', e1, e2, e3⟩ := cc_refuse (rc := rc) C0 A (k := 3) (by decide) (by decide) (K := 3) rfl
        refine ⟨e', fun d => ?_, e2, F0.trans0 ⟨t2, t3⟩ e3⟩
        rw [je_3, if_pos C.is, C.g1, jk_bs, fo_has C.F, jk_cI, jk_if0, if_pos c0, C.g1, jk_bs, fo_has C.F, jk_cI, jk_if0, if_pos c1, t1, jk_cI, cl_isIn, jk_cI, jp_in_of hj, jk_if0, if_pos c2, e1, jk_cI]
      · rw [if_neg c2]
        have W2 : jf_W (jf_join (sF σ) k j) := jf_W_tie A.W hk hj hb hb' (T := jt_T (sF σ) k) (fun x y hx hy h => jt_T_edge A.B hk hx hy h) (jt_T_self _ hk) (by simpa using c2)
        obtain ⟨h1, s1, s2, s3⟩ := fo_join (rc := rc) C0.F hk hj
        obtain ⟨h2, r1, r2, r3, r4, r5⟩ := cc_hand (rc := rc) C0 A s3 (fun x q => jI23 q) s2 (c_scr2 s3 (fun x q => ⟨q.1, by have := q.2; omega⟩) C0)
        have o1 : jx_at h1 0 = jx_at h0 0 := s3.2.2 0 (fun q => by have := q.1; omega)
        refine ⟨h2, fun d => ?_, r2, F0.trans0 ⟨t2, t3⟩ r3⟩
        rw [je_3, if_pos C.is, C.g1, jk_bs, fo_has C.F, jk_cI, jk_if0, if_pos c0, C.g1, jk_bs, fo_has C.F, jk_cI, jk_if0, if_pos c1, t1, jk_cI, cl_isIn, jk_cI, jp_in_of hj, jk_if0, if_neg c2, C0.g1, jk_bs, s1, jk_cV, o1, C0.g4, jk_bs, r1, jk_cV, r2.g1, jk_bs, fo_trees r5 W2.1.s W2.1.n, jk_cI]
    · rw [if_neg c1]
      refine ⟨e', fun d => ?_, e2, e3⟩
      rw [je_3, if_pos C.is, C.g1, jk_bs, fo_has C.F, jk_cI, jk_if0, if_pos c0, C.g1, jk_bs, fo_has C.F, jk_cI, jk_if0, if_neg c1, e1, jk_cI]
  · rw [if_neg c0]
    refine ⟨e', fun d => ?_, e2, e3⟩
    rw [je_3, if_pos C.is, C.g1, jk_bs, fo_has C.F, jk_cI, jk_if0, if_neg c0, e1, jk_cI]
theorem cc_at (hr : jk_rom rc) (C : CSt h σ) (A : AWt σ) (p w : Int32) : ∃ h', (∀ d, jx_C rc (d + 20) 6 [.ref 0, .int p, .int w] h = some (some (.int (op_at σ p w).1), h')) ∧ CSt h' (op_at σ p w).2 ∧ cF h h' := by
  unfold op_at
  obtain ⟨e', e1, e2, e3⟩ := cc_refuse (rc := rc) C A (k := 1) (by decide) (by decide) (K := 1) rfl
  by_cases c0 : jF_has (sF σ) p = true
  · rw [if_pos c0]
    obtain ⟨k, hk, rfl, hb⟩ := jF_has_iff.mp c0
    rw [pn_of hk]
    by_cases w0 : w = 0
    · rw [if_pos w0]
      refine ⟨h, fun d => ?_, C, cFid⟩
      rw [je_6, if_pos C.is, C.g1, jk_bs, fo_has C.F, jk_cI, jk_if0, if_pos c0, if_pos w0, C.g1, jk_bs, fo_weightAt C.F, jk_cI, jF_w_of hk]
    rw [if_neg w0]
    by_cases w1 : w = 1
    · rw [if_pos w1]
      refine ⟨h, fun d => ?_, C, cFid⟩
      rw [je_6, if_pos C.is, C.g1, jk_bs, fo_has C.F, jk_cI, jk_if0, if_pos c0, if_neg w0, if_pos (show w = 0 + 1 from w1), C.g1, jk_bs, fo_degree C.F A.B.n, jk_cI, jF_n_of hk]
    rw [if_neg w1]
    by_cases w2 : w = 2
    · rw [if_pos w2]
      refine ⟨h, fun d => ?_, C, cFid⟩
      rw [je_6, if_pos C.is, C.g1, jk_bs, fo_has C.F, jk_cI, jk_if0, if_pos c0, if_neg w0, if_neg (show ¬ w = 0 + 1 from w1), if_pos (show w = 0 + 1 + 1 from w2), C.g1, jk_bs, fo_nearsAt C.F, jk_cI, jF_n_of hk]
    rw [if_neg w2]
    by_cases w3 : w = 3
    · rw [if_pos w3]
      obtain ⟨h0, t1, C0, F0, t2, t3⟩ := cc_treeOf (rc := rc) C A hk hb
      refine ⟨h0, fun d => ?_, C0, F0⟩
      rw [je_6, if_pos C.is, C.g1, jk_bs, fo_has C.F, jk_cI, jk_if0, if_pos c0, if_neg w0, if_neg (show ¬ w = 0 + 1 from w1), if_neg (show ¬ w = 0 + 1 + 1 from w2), if_pos (show w = 0 + 1 + 1 + 1 from w3), t1, jk_cI]
    rw [if_neg w3]
    by_cases w4 : w = 4
    · rw [if_pos w4]
      obtain ⟨-, ⟨⟨m0, sg0, s0⟩, -⟩, -⟩ := C.scr
      obtain ⟨h1, s1, s2, s3⟩ := st_shrink (rc := rc) hr s0 C.F A.B (by omega) hk
      obtain ⟨C1, F1⟩ := cc_step C A s3 ⟨_, _, s2⟩
      refine ⟨h1, fun d => ?_, C1, F1⟩
      rw [je_6, if_pos C.is, C.g1, jk_bs, fo_has C.F, jk_cI, jk_if0, if_pos c0, if_neg w0, if_neg (show ¬ w = 0 + 1 from w1), if_neg (show ¬ w = 0 + 1 + 1 from w2), if_neg (show ¬ w = 0 + 1 + 1 + 1 from w3), if_pos (show w = 0 + 1 + 1 + 1 + 1 from w4), C.g3, jk_bs, C.g1, jk_bs, s1, jk_cI, jk_if0, C1.g3, jk_bs, st_g0 s2, jk_bs, jn_pos_sk hk]
      by_cases z : jf_ref (sF σ) false (jn_sk (sF σ) k, Int32.ofNat k, 0, 0, 0) = 0
      · rw [if_pos (decide_eq_true z), if_pos z]
      · rw [if_neg (by rw [decide_eq_false z]; decide), if_neg z]
    rw [if_neg w4]
    by_cases w5 : w = 5
    · rw [if_pos w5]
      obtain ⟨h1, o, par, dep, sz, r1, r2, r3, r4, r5, r6, r7⟩ := wk_from (rc := rc) (a := 174) C.scr.2.2.1 C.F A.W (by omega) hk hb
      obtain ⟨C1, F1⟩ := cc_wk C A r7 (wk_okof r2)
      obtain ⟨f1, f2⟩ := wk_far A.B hk r3 r4
      have s12 : sz ≤ 12 := by have := bc_le (jt_T (sF σ) k); have := r3.1.1.1; omega
      obtain ⟨ol, os⟩ := r3.1.2.1 (sz - 1) (by omega)
      have e12 : dep (o (sz - 1)) < 12 := by
        obtain ⟨kk, h1, h2, h3⟩ := jt_ecc_ex A.B.n hk
        apply Classical.byContradiction; intro z
        exact f2 kk (by omega) h2
      rw [jt_ecc_is e12 f1 f2]
      refine ⟨h1, fun d => ?_, C1, F1⟩
      obtain ⟨n, rfl⟩ : ∃ n, sz = n + 1 := ⟨sz - 1, by omega⟩
      rw [show n + 1 - 1 = n by omega] at *
      rw [je_6, if_pos C.is, C.g1, jk_bs, fo_has C.F, jk_cI, jk_if0, if_pos c0, if_neg w0, if_neg (show ¬ w = 0 + 1 from w1), if_neg (show ¬ w = 0 + 1 + 1 from w2), if_neg (show ¬ w = 0 + 1 + 1 + 1 from w3), if_neg (show ¬ w = 0 + 1 + 1 + 1 + 1 from w4), if_pos (show w = 0 + 1 + 1 + 1 + 1 + 1 from w5), C.g5, jk_bs, C.g1, jk_bs, r1, jk_cV, C1.g5, jk_bs, je_326, if_pos (wk_is r2), wk_g3 r2, jk_bs, jk_pred, wk_placeAt r2 s12 (by omega), jk_cI, if_pos (by omega), wk_depthAt r2 ol os, jk_cI, jk_cI]
    rw [if_neg w5]
    refine ⟨e', fun d => ?_, e2, e3⟩
    rw [je_6, if_pos C.is, C.g1, jk_bs, fo_has C.F, jk_cI, jk_if0, if_pos c0, if_neg w0, if_neg (show ¬ w = 0 + 1 from w1), if_neg (show ¬ w = 0 + 1 + 1 from w2), if_neg (show ¬ w = 0 + 1 + 1 + 1 from w3), if_neg (show ¬ w = 0 + 1 + 1 + 1 + 1 from w4), if_neg (show ¬ w = 0 + 1 + 1 + 1 + 1 + 1 from w5), e1, jk_cI]
  · rw [if_neg c0]
    refine ⟨e', fun d => ?_, e2, e3⟩
    rw [je_6, if_pos C.is, C.g1, jk_bs, fo_has C.F, jk_cI, jk_if0, if_neg c0, e1, jk_cI]
end
