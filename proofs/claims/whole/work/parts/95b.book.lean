/-! book(), both ways -/
def jq_bk (f : jF) : Nat → Nat → jSh → jSh
  | 0, _, e => e
  | m + 1, k, e => if k < e.2.1 then jq_bk f m (k + 1) (jq_wr e k (if bt f.2.2 k = true then f.1 k else 99)) else e
def op_book (σ : jSt) (k : Int32) : Int32 × jSt := if jp_four k = true then (match sE σ (pn k) with
  | some e => (Int32.ofNat (min 12 e.2.1), setE σ (va_up (sE σ) (pn k) (some (jq_bk (sF σ) 12 0 e))))
  | none => er σ 7) else er σ 1
theorem jq_bk_12 (f : jF) : ∀ (m k : Nat) (e : jSh), (jq_bk f m k e).1 = e.1 ∧ (jq_bk f m k e).2.1 = e.2.1
  | 0, _, _ => ⟨rfl, rfl⟩
  | m + 1, k, e => by
    unfold jq_bk
    split
    · exact jq_bk_12 f m (k + 1) _
    · exact ⟨rfl, rfl⟩
section
variable {rc : Nat → Nat × (Nat → Int32)} {h h' : jxH} {σ : jSt} {P : Nat → Prop} {b : Nat}
theorem cc_bk_l {h0 : jxH} (C : CSt h0 σ) (hb : 451 ≤ b) {n : Nat} (hn : n ≤ 24) : ∀ (m k : Nat) (e : jSh) (h : jxH), k + m = 12 → k ≤ n → e.2.1 = n → Fr (jI b 2) h0 h → ea_at h b e → ∃ h', (∀ d, jb_47 rc (d + 3) 22 [(0, .ref 0), (2, .ref b), (3, .int (Int32.ofNat k))] [] h = some (some (.int (Int32.ofNat (min 12 n))), h')) ∧ Fr (jI b 2) h0 h' ∧ ea_at h' b (jq_bk (sF σ) m k e)
  | 0, k, e, h, q, kn, en, F, E => by
    obtain rfl : k = 12 := by omega
    refine ⟨h, fun d => ?_, F, E⟩
    rw [je_47_22, if_pos (by decide), Nat.min_eq_left kn]
  | m + 1, k, e, h, q, kn, en, F, E => by
    have o : jx_at h 0 = jx_at h0 0 := F.2.2 0 (fun z => by have := z.1; omega)
    have g1 : jx_gR (jx_at h 0) 11 1 = some 2 := by rw [o]; exact C.g1
    have G : fo_at h 2 (sF σ) := fo_fr F (fun x a b z => by have := z.1; omega) C.F
    have st : ∀ d, jb_47 rc (d + 3) 22 [(0, .ref 0), (2, .ref b), (3, .int (Int32.ofNat k))] [] h = _ := fun d => by
      rw [je_47_22, if_neg (jk_n12 (by omega)), ea_has E, jk_cI, jk_if0]
    unfold jq_bk
    by_cases c1 : k < e.2.1
    · rw [if_pos c1]
      have c1' := (jq_shas_iff (e := e) (by omega)).mpr ⟨k, c1, rfl⟩
      obtain ⟨h1, r1, r2, r3⟩ := ea_write (rc := rc) E (by omega) c1 (if bt (sF σ).2.2 k = true then (sF σ).1 k else 99)
      obtain ⟨h2, s1, s2, s3⟩ := cc_bk_l C hb hn m (k + 1) _ h1 (by omega) (by omega) (show (jq_wr e k _).2.1 = n from en) (F.trans r3) r2
      refine ⟨h2, fun d => ?_, s2, s3⟩
      rw [st d, if_pos c1', g1, jk_bs, fo_has G, jk_cI, jk_if0, jF_has_of (show k < 12 by omega)]
      by_cases c2 : bt (sF σ).2.2 k = true
      · rw [if_pos c2] at r1
        rw [if_pos c2, g1, jk_bs, fo_weightAt G, jk_cI, jF_w_of (show k < 12 by omega), r1, jk_cV, jk_succ]
        exact s1 d
      · rw [if_neg c2] at r1
        rw [if_neg c2, r1, jk_cV, jk_succ]
        exact s1 d
    · rw [if_neg c1]
      refine ⟨h, fun d => ?_, F, E⟩
      rw [st d, if_neg (fun z => by
        obtain ⟨k', l, e'⟩ := (jq_shas_iff (by omega)).mp z
        rw [jk_inj (by omega) (by omega)] at e'; omega), show min 12 n = k by omega]
theorem cc_book (C : CSt h σ) (A : AWt σ) (k : Int32) : ∃ h', (∀ d, jx_C rc (d + 20) 47 [.ref 0, .int k] h = some (some (.int (op_book σ k).1), h')) ∧ CSt h' (op_book σ k).2 ∧ cF h h' := by
  unfold op_book
  obtain ⟨e', e1, e2, e3⟩ := cc_refuse (rc := rc) C A (k := 1) (by decide) (by decide) (K := 1) rfl
  by_cases c0 : jp_four k = true
  · rw [if_pos c0]
    obtain ⟨j, hj, rfl⟩ := jp_four_iff.mp c0
    rw [pn_4 hj]
    obtain ⟨n1, n2, n3⟩ := four_ok hj
    have st : ∀ d, jx_C rc (d + 20) 47 [.ref 0, .int (Int32.ofNat j)] h = _ := fun d => by
      rw [je_47, if_pos C.is, if_neg n1, if_pos n2, C.g12, jk_bs]
    rcases ed_get C.dyn hj with ⟨b1, b2⟩ | ⟨e, b, b1, b2, b3, b4, b5⟩
    · obtain ⟨f', f1, f2, f3⟩ := cc_refuse (rc := rc) C A (k := 7) (by decide) (by decide) (K := 7) rfl
      rw [show sE σ j = none from b1]
      refine ⟨f', fun d => ?_, f2, f3⟩
      rw [st d, b2, jk_bs, jk_mon, f1, jk_cI]
    · rw [show sE σ j = some e from b1]
      obtain ⟨h1, t1, t2, t3⟩ := cc_bk_l (rc := rc) C b3 (A.ss j e hj b1).2 12 0 e h (by omega) (by omega) rfl Fr.rfl b4
      obtain ⟨C1, F1⟩ := cc_dyn C A b3 t2 (b5 h1 _ t2 t3)
      refine ⟨h1, fun d => ?_, C1, F1⟩
      rw [st d, b2, jk_bs, jk_mos]
      exact t1 (d + 16)
  · rw [if_neg c0]
    refine ⟨e', fun d => ?_, e2, e3⟩
    rw [je_47, if_pos C.is]
    rcases four_no c0 with z | ⟨z1, z2, z3⟩
    · rw [if_pos z, e1, jk_cI]
    · rw [if_neg z1, if_neg z2, e1, jk_cI]
theorem aa_book (A : AWt σ) (k : Int32) : AWt (op_book σ k).2 := by
  unfold op_book
  split
  · rename_i c0
    obtain ⟨j, hj, rfl⟩ := jp_four_iff.mp c0
    rw [pn_4 hj]
    split
    · rename_i e q
      refine aa_ss A (ss_up A.ss _ ?_ ?_)
      · rw [(jq_bk_12 _ _ _ _).1]; exact (A.ss j e hj q).1
      · rw [(jq_bk_12 _ _ _ _).2]; exact (A.ss j e hj q).2
    · exact aa_er A
  · exact aa_er A
theorem rr_bk_l {j : Nat} (hj : j < 4) {n : Nat} (hn : n ≤ 24) {N : Nat} (hN : N = min 12 n) : ∀ (m k : Nat) (e : jSh) (σ : jSt) (h : jxH), k + m = 12 → k ≤ N → e.2.1 = n → RSt h σ → AWt σ → sE σ j = some e → ∃ h', (∀ d, jb_201 rc (d + 3) 25 [(0, .ref 336), (1, .int (Int32.ofNat j)), (3, .int (Int32.ofNat N)), (4, .int (Int32.ofNat k))] [] h = some (some (.int (Int32.ofNat N)), h')) ∧ RSt h' (setE σ (va_up (sE σ) j (some (jq_bk (sF σ) m k e)))) ∧ rF h h'
  | m, k, e, σ, h, q, kn, en, R, A, he => by
    have same : setE σ (va_up (sE σ) j (some e)) = σ := by
      unfold setE
      rw [show va_up (sE σ) j (some e) = sE σ from funext fun i => by
        unfold va_up
        split
        · rename_i z; rw [z, he]
        · rfl]
      rfl
    cases m with
    | zero =>
      refine ⟨h, fun d => ?_, by rw [show jq_bk (sF σ) 0 k e = e from rfl, same]; exact R, Fr.rfl⟩
      rw [je_201_25, if_pos (by rw [jk_le (by omega) (by omega)]; omega)]
    | succ m =>
      unfold jq_bk
      by_cases c1 : k < e.2.1
      · rw [if_pos c1]
        obtain ⟨h1, r1, r2, r3⟩ := rr_lays (rc := rc) R A hj he c1 (if bt (sF σ).2.2 k = true then (sF σ).1 k else 99)
        have A1 : AWt (setE σ (va_up (sE σ) j (some (jq_wr e k (if bt (sF σ).2.2 k = true then (sF σ).1 k else 99))))) := aa_ss A (ss_up A.ss _ (A.ss j e hj he).1 (A.ss j e hj he).2)
        obtain ⟨h2, s1, s2, s3⟩ := rr_bk_l hj hn hN m (k + 1) (jq_wr e k (if bt (sF σ).2.2 k = true then (sF σ).1 k else 99)) _ h1 (by omega) (by omega) en r2 A1 (by show va_up (sE σ) j _ j = _; unfold va_up; rw [if_pos rfl])
        refine ⟨h2, fun d => ?_, ?_, r3.trans s3⟩
        · rw [je_201_25, if_neg (by rw [jk_le (by omega) (by omega)]; omega), rr_isVertex R, jk_cI, jk_if0, jF_has_of (show k < 12 by omega)]
          by_cases c2 : bt (sF σ).2.2 k = true
          · rw [if_pos c2] at r1
            rw [if_pos c2, R.g1, jk_bs, ro_w R.F (show k < 12 by omega), jk_bs, r1, jk_cV, jk_succ]
            exact s1 d
          · rw [if_neg c2] at r1
            rw [if_neg c2, r1, jk_cV, jk_succ]
            exact s1 d
        · have s2' := s2
          rw [show sF (setE σ (va_up (sE σ) j (some (jq_wr e k (if bt (sF σ).2.2 k = true then (sF σ).1 k else 99))))) = sF σ from rfl] at s2'
          have up2 : ∀ x y : Option jSh, va_up (va_up (sE σ) j x) j y = va_up (sE σ) j y := fun x y => funext fun i => by unfold va_up; split <;> rfl
          have := up2 (some (jq_wr e k (if bt (sF σ).2.2 k = true then (sF σ).1 k else 99))) (some (jq_bk (sF σ) m (k + 1) (jq_wr e k (if bt (sF σ).2.2 k = true then (sF σ).1 k else 99))))
          rw [← this]
          exact s2'
      · rw [if_neg c1]
        refine ⟨h, fun d => ?_, by rw [same]; exact R, Fr.rfl⟩
        rw [je_201_25, if_pos (by rw [jk_le (by omega) (by omega)]; omega)]
theorem rr_book (R : RSt h σ) (A : AWt σ) (k : Int32) : ∃ h', (∀ d, jx_C rc (d + 20) 201 [.ref 336, .int k] h = some (some (.int (op_book σ k).1), h')) ∧ RSt h' (op_book σ k).2 ∧ rF h h' := by
  unfold op_book
  have st : ∀ d, jx_C rc (d + 20) 201 [.ref 336, .int k] h = _ := fun d => by
    rw [je_201, if_pos R.is, rr_notThere R A, jk_cI]
  by_cases c0 : jp_four k = true
  · simp only [if_pos c0] at st ⊢
    obtain ⟨j, hj, rfl⟩ := jp_four_iff.mp c0
    rw [pn_4 hj] at *
    cases he : sE σ j with
    | none =>
      obtain ⟨f', f1, f2, f3⟩ := rr_error (rc := rc) R A (k := 7) (by decide) (K := 7) rfl
      refine ⟨f', fun d => ?_, f2, f3⟩
      rw [st d, he]
      dsimp only
      rw [if_neg (by decide), f1, jk_cI]
    | some e =>
      have hn := (A.ss j e hj he).2
      obtain ⟨h3, t1, t2, t3⟩ := rr_bk_l (rc := rc) hj hn rfl 12 0 e σ h (by omega) (by omega) rfl R A he
      refine ⟨h3, fun d => ?_, t2, t3⟩
      rw [st d, he]
      dsimp only
      rw [if_pos (by decide), R.g33, jk_bs, R.size hj, jk_bs, he, show e_size (some e) = e.2.1 from rfl]
      by_cases c : 12 ≤ e.2.1
      · rw [if_pos (by rw [jk_12 (by omega)]; exact c)]
        have := t1 (d + 16)
        rw [show min 12 e.2.1 = 12 by omega] at this ⊢
        exact this
      · rw [if_neg (by rw [jk_12 (by omega)]; exact c), jk_bs, R.size hj, jk_bs, he, show e_size (some e) = e.2.1 from rfl]
        have := t1 (d + 16)
        rw [show min 12 e.2.1 = e.2.1 by omega] at this ⊢
        exact this
  · simp only [if_neg c0] at st ⊢
    obtain ⟨e', e1, e2, e3⟩ := rr_error (rc := rc) R A (k := 1) (by decide) (K := 1) rfl
    refine ⟨e', fun d => ?_, e2, e3⟩
    rw [st d, if_neg (by decide), e1, jk_cI]
end
