/-! best(), both ways -/
def jq_bs (f : jF) (s : Nat) : Nat → Nat → Int32 → Nat → Int32
  | 0, _, b, _ => b
  | m + 1, k, b, w => if w ≤ bc (jw_end 12 f (Int32.ofNat k) s).2.2.2 then jq_bs f s m (k + 1) b w else jq_bs f s m (k + 1) (Int32.ofNat k) (bc (jw_end 12 f (Int32.ofNat k) s).2.2.2)
def op_best (σ : jSt) (m : Int32) : Int32 × jSt := if jp_start m = true then (jq_bs (sF σ) (pn m) 6 0 0 13, σ) else er σ 1
theorem jq_bs_0 (f : jF) (s : Nat) (b : Int32) : jq_bs f s 6 0 b 13 = jq_bs f s 6 0 0 13 := by
  have l := bc_le (jw_end 12 f (Int32.ofNat 0) s).2.2.2
  unfold jq_bs
  rw [if_neg (by omega), if_neg (by omega)]
theorem jw_end_1 {kind : Int32} {s : Nat} : ∀ (m : Nat) (f : jF), (jw_end m f kind s).1 ≤ m
  | 0, f => Nat.le_refl 0
  | m + 1, f => by
    unfold jw_end
    split
    · rename_i k j _
      have := jw_end_1 (kind := kind) (s := s) m (jf_act f (k, Int32.ofNat j, 0, 0, 0))
      show (jw_end m (jf_act f (k, Int32.ofNat j, 0, 0, 0)) kind s).1 + 1 ≤ m + 1
      omega
    · exact Nat.zero_le _
section
variable {rc : Nat → Nat × (Nat → Int32)} {h h' : jxH} {σ : jSt} {P : Nat → Prop} {g : jF}
theorem cc_bs_l (hr : jk_rom rc) {s : Nat} (hs : s ≤ 9) (A : AWt σ) : ∀ (m k : Nat) (b : Int32) (w : Nat) (h : jxH), k + m = 6 → w ≤ 13 → CSt h σ → ∃ h', (∀ d, jb_39 rc (d + 8) 13 [(0, .ref 0), (1, .int (Int32.ofNat s)), (2, .int b), (3, .int (Int32.ofNat w)), (4, .int (Int32.ofNat k))] [] h = some (some (.int (jq_bs (sF σ) s m k b w)), h')) ∧ CSt h' σ ∧ cF h h' ∧ h'.1 = h.1 ∧ h'.2.1 = h.2.1
  | 0, k, b, w, h, q, l, C => by
    obtain rfl : k = 6 := by omega
    refine ⟨h, fun d => ?_, C, cFid, rfl, rfl⟩
    rw [je_39_13, if_pos (by decide)]
    rfl
  | m + 1, k, b, w, h, q, l, C => by
    obtain ⟨h1, r1, C1, F1, f1, f2, G⟩ := cc_end (rc := rc) hr C A (Int32.ofNat k) hs
    have W := jw_end_W (kind := Int32.ofNat k) (s := s) 12 (sF σ) A.W
    have l2 := bc_le (jw_end 12 (sF σ) (Int32.ofNat k) s).2.2.2
    have st : ∀ d, jb_39 rc (d + 8) 13 [(0, .ref 0), (1, .int (Int32.ofNat s)), (2, .int b), (3, .int (Int32.ofNat w)), (4, .int (Int32.ofNat k))] [] h = _ := fun d => by
      rw [je_39_13, if_neg (by rw [show (6 : Int32) = Int32.ofNat 6 from rfl, jk_le (by decide) (by omega)]; omega), r1, jk_cI, C1.g2, jk_bs, fo_size G W.1.s, jk_cI]
    unfold jq_bs
    by_cases c : w ≤ bc (jw_end 12 (sF σ) (Int32.ofNat k) s).2.2.2
    · rw [if_pos c]
      obtain ⟨h2, u1, u2, u3, u4, u5⟩ := cc_bs_l hr hs A m (k + 1) b w h1 (by omega) l C1
      refine ⟨h2, fun d => ?_, u2, F1.trans0 ⟨f1, f2⟩ u3, u4.trans f1, u5.trans f2⟩
      rw [st d, if_pos (by rw [jk_le (by omega) (by omega)]; exact c), jk_succ]
      exact u1 d
    · rw [if_neg c]
      obtain ⟨h2, u1, u2, u3, u4, u5⟩ := cc_bs_l hr hs A m (k + 1) (Int32.ofNat k) (bc (jw_end 12 (sF σ) (Int32.ofNat k) s).2.2.2) h1 (by omega) (by omega) C1
      refine ⟨h2, fun d => ?_, u2, F1.trans0 ⟨f1, f2⟩ u3, u4.trans f1, u5.trans f2⟩
      rw [st d, if_neg (by rw [jk_le (by omega) (by omega)]; exact c), C1.g2, jk_bs, fo_size G W.1.s, jk_cI, jk_succ]
      exact u1 d
theorem cc_best (hr : jk_rom rc) (C : CSt h σ) (A : AWt σ) (m : Int32) : ∃ h', (∀ d, jx_C rc (d + 20) 39 [.ref 0, .int m] h = some (some (.int (op_best σ m).1), h')) ∧ CSt h' (op_best σ m).2 ∧ cF h h' := by
  unfold op_best
  by_cases c0 : jp_start m = true
  · rw [if_pos c0]
    obtain ⟨s, hs, rfl⟩ := jp_start_iff.mp c0
    rw [show pn (Int32.ofNat s) = s from jk_cl (by omega)]
    obtain ⟨h2, u1, u2, u3, -, -⟩ := cc_bs_l (rc := rc) hr hs A 6 0 (-1) 13 h (by omega) (by omega) C
    refine ⟨h2, fun d => ?_, u2, u3⟩
    rw [je_39, if_pos C.is, cl_isStart, jk_cI, jk_if0, if_pos c0, ← jq_bs_0 (sF σ) s (-1)]
    exact u1 (d + 11)
  · rw [if_neg c0]
    obtain ⟨e', e1, e2, e3⟩ := cc_refuse (rc := rc) C A (k := 1) (by decide) (by decide) (K := 1) rfl
    refine ⟨e', fun d => ?_, e2, e3⟩
    rw [je_39, if_pos C.is, cl_isStart, jk_cI, jk_if0, if_neg c0, e1, jk_cI]
theorem aa_best (A : AWt σ) (m : Int32) : AWt (op_best σ m).2 := by
  unfold op_best
  split
  · exact A
  · exact aa_er A
theorem rr_bs_l {s : Nat} (hs : s ≤ 9) (A : AWt σ) : ∀ (m k : Nat) (b : Int32) (w : Nat) (h : jxH), k + m = 6 → w ≤ 13 → RSt h σ → ∃ h', (∀ d, jb_188 rc (d + 9) 16 [(0, .ref 336), (1, .int (Int32.ofNat s)), (2, .int b), (3, .int (Int32.ofNat w)), (4, .int (Int32.ofNat k))] [] h = some (some (.int (jq_bs (sF σ) s m k b w)), h')) ∧ RSt h' σ ∧ rF h h'
  | 0, k, b, w, h, q, l, R => by
    obtain rfl : k = 6 := by omega
    refine ⟨h, fun d => ?_, R, Fr.rfl⟩
    rw [je_188_16, if_pos (by decide)]
    rfl
  | m + 1, k, b, w, h, q, l, R => by
    obtain ⟨h1, r1, R1, F1, G⟩ := rr_end (rc := rc) R A (Int32.ofNat k) hs
    have l2 := bc_le (jw_end 12 (sF σ) (Int32.ofNat k) s).2.2.2
    have l3 : (jw_end 12 (sF σ) (Int32.ofNat k) s).1 < 2 ^ 31 := by have := jw_end_1 (kind := Int32.ofNat k) (s := s) 12 (sF σ); omega
    have st : ∀ d, jb_188 rc (d + 9) 16 [(0, .ref 336), (1, .int (Int32.ofNat s)), (2, .int b), (3, .int (Int32.ofNat w)), (4, .int (Int32.ofNat k))] [] h = _ := fun d => by
      rw [je_188_16, if_neg (by rw [show (6 : Int32) = Int32.ofNat 6 from rfl, jk_le (by decide) (by omega)]; omega), r1, jk_cI, R1.g28, jk_bs, show (0 : Int32) = Int32.ofNat 0 from rfl, m_rows_q R1.th (by decide) (by decide), jk_bs, jk_mos, show Int32.ofNat 0 = (0 : Int32) from rfl, ro_0 G, jk_bs, rf_many, jk_cI]
    unfold jq_bs
    by_cases c : w ≤ bc (jw_end 12 (sF σ) (Int32.ofNat k) s).2.2.2
    · rw [if_pos c]
      have c' : Int32.ofNat w ≤ Int32.ofNat (bc (jw_end 12 (sF σ) (Int32.ofNat k) s).2.2.2) := by rw [jk_le (by omega) (by omega)]; exact c
      obtain ⟨h2, u1, u2, u3⟩ := rr_bs_l hs A m (k + 1) b w h1 (by omega) l R1
      refine ⟨h2, fun d => ?_, u2, F1.trans u3⟩
      rw [st d, if_pos c', if_pos c', jk_succ]
      exact u1 d
    · rw [if_neg c]
      have c' : ¬ Int32.ofNat w ≤ Int32.ofNat (bc (jw_end 12 (sF σ) (Int32.ofNat k) s).2.2.2) := by rw [jk_le (by omega) (by omega)]; exact c
      obtain ⟨h2, u1, u2, u3⟩ := rr_bs_l hs A m (k + 1) (Int32.ofNat k) (bc (jw_end 12 (sF σ) (Int32.ofNat k) s).2.2.2) h1 (by omega) (by omega) R1
      refine ⟨h2, fun d => ?_, u2, F1.trans u3⟩
      rw [st d, if_neg c', if_neg (jk_nn l3), if_neg c', jk_succ]
      exact u1 d
theorem rr_best (R : RSt h σ) (A : AWt σ) (m : Int32) : ∃ h', (∀ d, jx_C rc (d + 20) 188 [.ref 336, .int m] h = some (some (.int (op_best σ m).1), h')) ∧ RSt h' (op_best σ m).2 ∧ rF h h' := by
  unfold op_best
  by_cases c0 : jp_start m = true
  · rw [if_pos c0]
    obtain ⟨s, hs, rfl⟩ := jp_start_iff.mp c0
    rw [show pn (Int32.ofNat s) = s from jk_cl (by omega)]
    obtain ⟨h2, u1, u2, u3⟩ := rr_bs_l (rc := rc) hs A 6 0 0 13 h (by omega) (by omega) R
    refine ⟨h2, fun d => ?_, u2, u3⟩
    rw [je_188, if_pos R.is, rf_in, jk_cI, jk_if0, show (9 : Int64) = (9 : Int32).toInt64 from rfl, jp_bt_hi, jp_start_hi, if_pos c0]
    exact u1 (d + 10)
  · rw [if_neg c0]
    obtain ⟨e', e1, e2, e3⟩ := rr_error (rc := rc) R A (k := 1) (by decide) (K := 1) rfl
    refine ⟨e', fun d => ?_, e2, e3⟩
    rw [je_188, if_pos R.is, rf_in, jk_cI, jk_if0, show (9 : Int64) = (9 : Int32).toInt64 from rfl, jp_bt_hi, jp_start_hi, if_neg c0, e1, jk_cI]
end
