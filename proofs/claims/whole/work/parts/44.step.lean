/-! One MOVE: the class's Step; when it is REFUSED -/
def jr_1 (k : Nat) : Int32 := [1, 7, 5, 4, 1, 1, 0, 13].getD k 0
def jr_2 (k : Nat) : Int32 := [0, 1, 1, 1, 0, 0, 0, 2].getD k 0
def jr_3 (k : Nat) : Int32 := [-1, 0, 0, 1, 2, 0].getD k 0
def jk_rom (rc : Nat → Nat × (Nat → Int32)) : Prop := (rc 1).1 = 8 ∧ (rc 2).1 = 8 ∧ (rc 3).1 = 6 ∧ (rc 1).2 = jr_1 ∧ (rc 2).2 = jr_2 ∧ (rc 3).2 = jr_3
-- KIND, p, q, v, s
abbrev jM := Int32 × Int32 × Int32 × Int32 × Int32
def st_at (h : jxH) (t : Nat) (m : jM) (sg : Int32) : Prop := jx_at h t = jxO 6 [.int m.1, .int m.2.1, .int m.2.2.1, .int m.2.2.2.1, .int m.2.2.2.2, .int sg, .ref (t + 1)]
theorem jk_pF (c k : Nat) (fs : List Value) (v : Value) (hk : k < fs.length) : jx_pF (jxO c fs) c k v = some (jxO c (fs.set k v)) := by simp [jx_pF, jxO, hk]
theorem jk_set_set (h : jxH) (a : Nat) (e e' : jxE) : jx_set (jx_set h a e) a e' = jx_set h a e' := by
  show (h.1, h.2.1, va_up (va_up h.2.2 a e) a e') = (h.1, h.2.1, va_up h.2.2 a e')
  rw [show va_up (va_up h.2.2 a e) a e' = va_up h.2.2 a e' from funext fun j => by unfold va_up; split <;> simp [*]]
def jr_has (k : Int32) : Int32 := if k < 0 then 0 else if 8 ≤ k then 0 else jr_1 k.toNatClampNeg
def jm_norm (m : jM) : jM := (m.1, if jr_has m.1 &&& 1 = 0 then 0 else m.2.1, if jr_has m.1 &&& 2 = 0 then 0 else m.2.2.1, if jr_has m.1 &&& 4 = 0 then 0 else m.2.2.2.1, if jr_has m.1 &&& 8 = 0 then 0 else m.2.2.2.2)
section
variable {rc : Nat → Nat × (Nat → Int32)} {h : jxH} {a t : Nat} {f g : jF} {m : jM} {sg : Int32}
theorem st_is (H : st_at h t m sg) : jx_is (jx_at h t) 6 = true := by rw [H]; rfl
theorem st_g0 (H : st_at h t m sg) : jx_gI (jx_at h t) 6 0 = some m.1 := by rw [H]; rfl
theorem st_g1 (H : st_at h t m sg) : jx_gI (jx_at h t) 6 1 = some m.2.1 := by rw [H]; rfl
theorem st_g2 (H : st_at h t m sg) : jx_gI (jx_at h t) 6 2 = some m.2.2.1 := by rw [H]; rfl
theorem st_g3 (H : st_at h t m sg) : jx_gI (jx_at h t) 6 3 = some m.2.2.2.1 := by rw [H]; rfl
theorem st_g4 (H : st_at h t m sg) : jx_gI (jx_at h t) 6 4 = some m.2.2.2.2 := by rw [H]; rfl
theorem st_g5 (H : st_at h t m sg) : jx_gI (jx_at h t) 6 5 = some sg := by rw [H]; rfl
theorem st_g6 (H : st_at h t m sg) : jx_gR (jx_at h t) 6 6 = some (t + 1) := by rw [H]; rfl
theorem st_fr {P : Nat → Prop} {h' : jxH} (F : Fr P h h') (hP : ¬ P t) (H : st_at h t m sg) : st_at h' t m sg := (F.2.2 t hP).trans H
theorem st_mean_l (s0 : Int32) (k p q v s : Int32) (H : st_at h t m sg) (d : Nat) : jb_281 rc d 11 [(0, .ref t), (1, .int k), (2, .int p), (3, .int q), (4, .int v), (5, .int s)] [.int s0] h = some (none, jx_set h t (jxO 6 [.int k, .int (if s0 &&& 1 = 0 then 0 else p), .int (if s0 &&& 2 = 0 then 0 else q), .int (if s0 &&& 4 = 0 then 0 else v), .int (if s0 &&& 8 = 0 then 0 else s), .int sg, .ref (t + 1)])) := by
  by_cases h1 : s0 &&& 1 = 0 <;> by_cases h2 : s0 &&& 2 = 0 <;> by_cases h4 : s0 &&& 4 = 0 <;> by_cases h8 : s0 &&& 8 = 0 <;>
    simp [je_281_11, je_281_32, H.trans rfl, jk_pF, jk_at_self, jk_set_set, h1, h2, h4, h8, show jx_at h t = _ from H]
/-- mean() -/
theorem st_mean (hr : jk_rom rc) (H : st_at h t m sg) (k p q v s : Int32) : ∃ h', (∀ d, jx_C rc (d + 1) 281 [.ref t, .int k, .int p, .int q, .int v, .int s] h = some (none, h')) ∧ st_at h' t (jm_norm (k, p, q, v, s)) sg ∧ Fr (fun x => x = t) h h' := by
  refine ⟨jx_set h t (jxO 6 [.int k, .int (if jr_has k &&& 1 = 0 then 0 else p), .int (if jr_has k &&& 2 = 0 then 0 else q), .int (if jr_has k &&& 4 = 0 then 0 else v), .int (if jr_has k &&& 8 = 0 then 0 else s), .int sg, .ref (t + 1)]), fun d => ?_, jk_at_self .., Fr.set rfl⟩
  rw [je_281, if_pos (st_is H), hr.1]
  unfold jr_has
  split
  · exact st_mean_l 0 k p q v s H d
  · rename_i hk
    rw [show Int32.ofNat 8 = 8 from rfl]
    split
    · exact st_mean_l 0 k p q v s H d
    · rename_i h8
      rw [jk_of hk] at h8 ⊢
      have h8' : k.toNatClampNeg < 8 := by
        rw [show (8 : Int32) = Int32.ofNat 8 from rfl, jk_le (by decide) (jk_of_lt k)] at h8
        omega
      rw [jk_outf h8' (by decide), jk_cl (jk_of_lt k), hr.2.2.2.1, if_neg Bool.false_ne_true]
      exact st_mean_l _ _ p q v s H d

def jd_light (f : jF) (n : Int32) (w : Int32) : Bool := if n = 0 then true else jp_wt (jF_w f (jk_on (lo n)) - w) && jp_wt (jF_w f (jk_on (hi n)) - w)
/-- why a MOVE is REFUSED; 0: it is not -/
def jf_ref (f : jF) (full : Bool) (m : jM) : Int32 :=
  if m.1 = 0 then (if jF_has f m.2.1 = true then (if (jF_w f m.2.1 = 1 ∨ jF_w f m.2.1 = -1) ∧ bc (jF_n f m.2.1) ≤ 2 then (if full = true then 4 else if jd_light f (jF_n f m.2.1) (jF_w f m.2.1) = true then 0 else 5) else 3) else 1)
  else if m.1 = 1 then (if jF_has f m.2.1 = true ∧ jF_has f m.2.2.1 = true ∧ (m.2.2.2.1 = 1 ∨ m.2.2.2.1 = -1) then (if jF_near f m.2.1 m.2.2.1 = true then (if full = true ∨ 12 ≤ bc f.2.2 then 4 else if jp_wt (jF_w f m.2.1 + m.2.2.2.1) = true ∧ jp_wt (jF_w f m.2.2.1 + m.2.2.2.1) = true then 0 else 5) else 3) else 1)
  else if m.1 = 2 then (if jF_has f m.2.1 = true ∧ (m.2.2.2.1 = 1 ∨ m.2.2.2.1 = -1) then (if full = true ∨ 12 ≤ bc f.2.2 then 4 else if jp_wt (jF_w f m.2.1 + m.2.2.2.1) = true then 0 else 5) else 1)
  else if m.1 = 3 then (if m.2.2.2.1 = 1 ∨ m.2.2.2.1 = -1 then (if full = true ∨ 12 ≤ bc f.2.2 then 4 else 0) else 1)
  else if m.1 = 4 then (if jF_has f m.2.1 = true then (if jF_w f m.2.1 = 0 ∧ bc (jF_n f m.2.1) = 2 then (if full = true then 4 else if jp_wt (jF_w f (jk_on (lo (jF_n f m.2.1))) + jF_w f (jk_on (hi (jF_n f m.2.1)))) = true then 0 else 5) else 3) else 1)
  else if m.1 = 5 then (if jF_has f m.2.1 = true then (if jF_w f m.2.1 = 0 ∧ bc (jF_n f m.2.1) = 1 then (if full = true then 4 else 0) else 3) else 1)
  else if m.1 = 6 then (if full = true then 4 else 0)
  else if m.1 = 7 then (if jF_has f m.2.1 = true ∧ jp_wt m.2.2.2.1 = true ∧ m.2.2.2.2 &&& (jF_n f m.2.1 ^^^ (-1)) = 0 then (if full = true ∨ 11 ≤ bc f.2.2 then 4 else if jp_wt (jF_w f m.2.1 - m.2.2.2.1) = true then 0 else 5) else 1)
  else 1
theorem jf_n_S (hn : ∀ k, k < 12 → S12 (f.2.1 k)) (p : Int32) : S12 (jF_n f p) := by
  unfold jF_n
  split
  · exact S12_0
  · split
    · exact S12_0
    · obtain ⟨k, hk, rfl⟩ := jk_place (by assumption) (by assumption)
      rw [jk_cl (by omega)]; exact hn k hk
theorem jk_le2 (x : Int32) : ((2 : Int32) < Int32.ofNat (bc x)) ↔ ¬ bc x ≤ 2 := by
  have := bc_le x
  rw [show (2 : Int32) = Int32.ofNat 2 from rfl, jk_lt (by decide) (by omega)]
  omega
theorem jk_eq2 (x : Int32) : (Int32.ofNat (bc x) = (2 : Int32)) ↔ bc x = 2 := by
  have := bc_le x
  rw [show (2 : Int32) = Int32.ofNat 2 from rfl, jk_inj (by omega) (by decide)]
theorem jk_eq1 (x : Int32) : (Int32.ofNat (bc x) = (1 : Int32)) ↔ bc x = 1 := by
  have := bc_le x
  rw [show (1 : Int32) = Int32.ofNat 1 from rfl, jk_inj (by omega) (by decide)]
theorem jk_rest12 (x : Int32) : (12 : Int32) - Int32.ofNat (bc x) = Int32.ofNat (12 - bc x) := by
  rw [Int32.ofNat_sub _ _ (bc_le x)]; rfl
theorem jk_free0 (x : Int32) : ((0 : Int32) ≤ (12 : Int32) - Int32.ofNat (bc x)) ↔ True := by
  rw [jk_rest12]; simp; exact jk_ge (by have := bc_le x; omega)
theorem jk_free1 (x : Int32) : ((1 : Int32) ≤ (12 : Int32) - Int32.ofNat (bc x)) ↔ ¬ 12 ≤ bc x := by
  have := bc_le x
  rw [jk_rest12, show (1 : Int32) = Int32.ofNat 1 from rfl, jk_le (by decide) (by omega)]; omega
theorem jk_free2 (x : Int32) : ((2 : Int32) ≤ (12 : Int32) - Int32.ofNat (bc x)) ↔ ¬ 11 ≤ bc x := by
  have := bc_le x
  rw [jk_rest12, show (2 : Int32) = Int32.ofNat 2 from rfl, jk_le (by decide) (by omega)]; omega
theorem jk_if0 (b : Bool) {α : Type} (x y : α) : (if jk_b b = 0 then x else y) = (if b = true then y else x) := by cases b <;> rfl
theorem jk_cI_ite {c : Prop} [Decidable c] (x y : jxR) (f : Int32 → jxH → jxR) : jx_cI (if c then x else y) f = if c then jx_cI x f else jx_cI y f := by split <;> rfl
theorem jk_l1_1 : ((1 : Int32) &&& 1 = 0) = False := eq_false (by decide)
theorem jk_l1_2 : ((1 : Int32) &&& 2 = 0) = True := eq_true (by decide)
theorem jk_l1_4 : ((1 : Int32) &&& 4 = 0) = True := eq_true (by decide)
theorem jk_l1_8 : ((1 : Int32) &&& 8 = 0) = True := eq_true (by decide)
theorem jk_l7_1 : ((7 : Int32) &&& 1 = 0) = False := eq_false (by decide)
theorem jk_l7_2 : ((7 : Int32) &&& 2 = 0) = False := eq_false (by decide)
theorem jk_l7_4 : ((7 : Int32) &&& 4 = 0) = False := eq_false (by decide)
theorem jk_l7_8 : ((7 : Int32) &&& 8 = 0) = True := eq_true (by decide)
theorem jk_l5_1 : ((5 : Int32) &&& 1 = 0) = False := eq_false (by decide)
theorem jk_l5_2 : ((5 : Int32) &&& 2 = 0) = True := eq_true (by decide)
theorem jk_l5_4 : ((5 : Int32) &&& 4 = 0) = False := eq_false (by decide)
theorem jk_l5_8 : ((5 : Int32) &&& 8 = 0) = True := eq_true (by decide)
theorem jk_l4_1 : ((4 : Int32) &&& 1 = 0) = True := eq_true (by decide)
theorem jk_l4_2 : ((4 : Int32) &&& 2 = 0) = True := eq_true (by decide)
theorem jk_l4_4 : ((4 : Int32) &&& 4 = 0) = False := eq_false (by decide)
theorem jk_l4_8 : ((4 : Int32) &&& 8 = 0) = True := eq_true (by decide)
theorem jk_l13_1 : ((13 : Int32) &&& 1 = 0) = False := eq_false (by decide)
theorem jk_l13_2 : ((13 : Int32) &&& 2 = 0) = True := eq_true (by decide)
theorem jk_l13_4 : ((13 : Int32) &&& 4 = 0) = False := eq_false (by decide)
theorem jk_l13_8 : ((13 : Int32) &&& 8 = 0) = False := eq_false (by decide)
theorem jk_kind8 (k : Int32) : k = 0 ∨ k = 1 ∨ k = 2 ∨ k = 3 ∨ k = 4 ∨ k = 5 ∨ k = 6 ∨ k = 7 ∨ k < 0 ∨ 8 ≤ k := by
  simp only [← Int32.toInt_inj, Int32.lt_iff_toInt_lt, Int32.le_iff_toInt_le, show (0 : Int32).toInt = 0 from rfl, show (1 : Int32).toInt = 1 from rfl, show (2 : Int32).toInt = 2 from rfl, show (3 : Int32).toInt = 3 from rfl, show (4 : Int32).toInt = 4 from rfl, show (5 : Int32).toInt = 5 from rfl, show (6 : Int32).toInt = 6 from rfl, show (7 : Int32).toInt = 7 from rfl, show (8 : Int32).toInt = 8 from rfl]
  omega
theorem st_refusal (hr : jk_rom rc) (H : st_at h t m sg) (G : fo_at h a f) (hn : ∀ k, k < 12 → S12 (f.2.1 k)) (hs : S12 f.2.2) (b : Bool) (d : Nat) : jx_C rc (d + 5) 285 [.ref t, .ref a, .int (jk_b b)] h = some (some (.int (jf_ref f b m)), h) := by
  obtain ⟨k, p, q, v, s⟩ := m
  have g0 : jx_gI (jx_at h t) 6 0 = some k := st_g0 H
  have g1 : jx_gI (jx_at h t) 6 1 = some p := st_g1 H
  have g2 : jx_gI (jx_at h t) 6 2 = some q := st_g2 H
  have g3 : jx_gI (jx_at h t) 6 3 = some v := st_g3 H
  have g4 : jx_gI (jx_at h t) 6 4 = some s := st_g4 H
  obtain ⟨r1, r2, r3, r4, r5, r6⟩ := hr
  rcases jk_kind8 k with rfl | rfl | rfl | rfl | rfl | rfl | rfl | rfl | hk
  · simp [je_285, je_286, je_286_35, je_287, je_288, st_is H, g0, g1, g2, g3, g4, fo_has G, fo_weightAt G, fo_degree G hn, fo_nearsAt G, fo_areNear G, cl_isWeight, cl_leastOf, cl_greatestOf, fo_size G hs, r1, r2, r4, r5, jr_1, jr_2, jk_if0, jk_cI, jf_ref, jk_le2, jk_eq1, jk_eq2, jk_free0, jk_free1, jk_free2, jx_out, jk_r0, jk_r1, jk_bb, jk_cI_ite, jk_l1_1, jk_l1_2, jk_l1_4, jk_l1_8, jk_l7_1, jk_l7_2, jk_l7_4, jk_l7_8, jk_l5_1, jk_l5_2, jk_l5_4, jk_l5_8, jk_l4_1, jk_l4_2, jk_l4_4, jk_l4_8, jk_l13_1, jk_l13_2, jk_l13_4, jk_l13_8]
    grind [jd_light]
  · simp [je_285, je_286, je_286_35, je_287, je_288, st_is H, g0, g1, g2, g3, g4, fo_has G, fo_weightAt G, fo_degree G hn, fo_nearsAt G, fo_areNear G, cl_isWeight, cl_leastOf, cl_greatestOf, fo_size G hs, r1, r2, r4, r5, jr_1, jr_2, jk_if0, jk_cI, jf_ref, jk_le2, jk_eq1, jk_eq2, jk_free0, jk_free1, jk_free2, jx_out, jk_r0, jk_r1, jk_bb, jk_cI_ite, jk_l1_1, jk_l1_2, jk_l1_4, jk_l1_8, jk_l7_1, jk_l7_2, jk_l7_4, jk_l7_8, jk_l5_1, jk_l5_2, jk_l5_4, jk_l5_8, jk_l4_1, jk_l4_2, jk_l4_4, jk_l4_8, jk_l13_1, jk_l13_2, jk_l13_4, jk_l13_8]
    grind [jd_light]
  · simp [je_285, je_286, je_286_35, je_287, je_288, st_is H, g0, g1, g2, g3, g4, fo_has G, fo_weightAt G, fo_degree G hn, fo_nearsAt G, fo_areNear G, cl_isWeight, cl_leastOf, cl_greatestOf, fo_size G hs, r1, r2, r4, r5, jr_1, jr_2, jk_if0, jk_cI, jf_ref, jk_le2, jk_eq1, jk_eq2, jk_free0, jk_free1, jk_free2, jx_out, jk_r0, jk_r1, jk_bb, jk_cI_ite, jk_l1_1, jk_l1_2, jk_l1_4, jk_l1_8, jk_l7_1, jk_l7_2, jk_l7_4, jk_l7_8, jk_l5_1, jk_l5_2, jk_l5_4, jk_l5_8, jk_l4_1, jk_l4_2, jk_l4_4, jk_l4_8, jk_l13_1, jk_l13_2, jk_l13_4, jk_l13_8]
    grind [jd_light]
  · simp [je_285, je_286, je_286_35, je_287, je_288, st_is H, g0, g1, g2, g3, g4, fo_has G, fo_weightAt G, fo_degree G hn, fo_nearsAt G, fo_areNear G, cl_isWeight, cl_leastOf, cl_greatestOf, fo_size G hs, r1, r2, r4, r5, jr_1, jr_2, jk_if0, jk_cI, jf_ref, jk_le2, jk_eq1, jk_eq2, jk_free0, jk_free1, jk_free2, jx_out, jk_r0, jk_r1, jk_bb, jk_cI_ite, jk_l1_1, jk_l1_2, jk_l1_4, jk_l1_8, jk_l7_1, jk_l7_2, jk_l7_4, jk_l7_8, jk_l5_1, jk_l5_2, jk_l5_4, jk_l5_8, jk_l4_1, jk_l4_2, jk_l4_4, jk_l4_8, jk_l13_1, jk_l13_2, jk_l13_4, jk_l13_8]
    grind [jd_light]
  · simp [je_285, je_286, je_286_35, je_287, je_288, st_is H, g0, g1, g2, g3, g4, fo_has G, fo_weightAt G, fo_degree G hn, fo_nearsAt G, fo_areNear G, cl_isWeight, cl_leastOf, cl_greatestOf, fo_size G hs, r1, r2, r4, r5, jr_1, jr_2, jk_if0, jk_cI, jf_ref, jk_le2, jk_eq1, jk_eq2, jk_free0, jk_free1, jk_free2, jx_out, jk_r0, jk_r1, jk_bb, jk_cI_ite, jk_l1_1, jk_l1_2, jk_l1_4, jk_l1_8, jk_l7_1, jk_l7_2, jk_l7_4, jk_l7_8, jk_l5_1, jk_l5_2, jk_l5_4, jk_l5_8, jk_l4_1, jk_l4_2, jk_l4_4, jk_l4_8, jk_l13_1, jk_l13_2, jk_l13_4, jk_l13_8]
    grind [jd_light]
  · simp [je_285, je_286, je_286_35, je_287, je_288, st_is H, g0, g1, g2, g3, g4, fo_has G, fo_weightAt G, fo_degree G hn, fo_nearsAt G, fo_areNear G, cl_isWeight, cl_leastOf, cl_greatestOf, fo_size G hs, r1, r2, r4, r5, jr_1, jr_2, jk_if0, jk_cI, jf_ref, jk_le2, jk_eq1, jk_eq2, jk_free0, jk_free1, jk_free2, jx_out, jk_r0, jk_r1, jk_bb, jk_cI_ite, jk_l1_1, jk_l1_2, jk_l1_4, jk_l1_8, jk_l7_1, jk_l7_2, jk_l7_4, jk_l7_8, jk_l5_1, jk_l5_2, jk_l5_4, jk_l5_8, jk_l4_1, jk_l4_2, jk_l4_4, jk_l4_8, jk_l13_1, jk_l13_2, jk_l13_4, jk_l13_8]
    grind [jd_light]
  · simp [je_285, je_286, je_286_35, je_287, je_288, st_is H, g0, g1, g2, g3, g4, fo_has G, fo_weightAt G, fo_degree G hn, fo_nearsAt G, fo_areNear G, cl_isWeight, cl_leastOf, cl_greatestOf, fo_size G hs, r1, r2, r4, r5, jr_1, jr_2, jk_if0, jk_cI, jf_ref, jk_le2, jk_eq1, jk_eq2, jk_free0, jk_free1, jk_free2, jx_out, jk_r0, jk_r1, jk_bb, jk_cI_ite, jk_l1_1, jk_l1_2, jk_l1_4, jk_l1_8, jk_l7_1, jk_l7_2, jk_l7_4, jk_l7_8, jk_l5_1, jk_l5_2, jk_l5_4, jk_l5_8, jk_l4_1, jk_l4_2, jk_l4_4, jk_l4_8, jk_l13_1, jk_l13_2, jk_l13_4, jk_l13_8]
    grind [jd_light]
  · simp [je_285, je_286, je_286_35, je_287, je_288, st_is H, g0, g1, g2, g3, g4, fo_has G, fo_weightAt G, fo_degree G hn, fo_nearsAt G, fo_areNear G, cl_isWeight, cl_leastOf, cl_greatestOf, fo_size G hs, r1, r2, r4, r5, jr_1, jr_2, jk_if0, jk_cI, jf_ref, jk_le2, jk_eq1, jk_eq2, jk_free0, jk_free1, jk_free2, jx_out, jk_r0, jk_r1, jk_bb, jk_cI_ite, jk_l1_1, jk_l1_2, jk_l1_4, jk_l1_8, jk_l7_1, jk_l7_2, jk_l7_4, jk_l7_8, jk_l5_1, jk_l5_2, jk_l5_4, jk_l5_8, jk_l4_1, jk_l4_2, jk_l4_4, jk_l4_8, jk_l13_1, jk_l13_2, jk_l13_4, jk_l13_8]
    grind [jd_light]
  · have e0 : ¬ k = 0 := fun q => by subst q; revert hk; decide
    have e1 : ¬ k = 1 := fun q => by subst q; revert hk; decide
    have e2 : ¬ k = 2 := fun q => by subst q; revert hk; decide
    have e3 : ¬ k = 3 := fun q => by subst q; revert hk; decide
    have e4 : ¬ k = 4 := fun q => by subst q; revert hk; decide
    have e5 : ¬ k = 5 := fun q => by subst q; revert hk; decide
    have e6 : ¬ k = 6 := fun q => by subst q; revert hk; decide
    have e7 : ¬ k = 7 := fun q => by subst q; revert hk; decide
    have e9 : ¬ k < 0 → ¬ k < 8 := fun q => by
      rcases hk with hk | hk
      · exact absurd hk q
      · rw [Int32.lt_iff_toInt_lt]; rw [Int32.le_iff_toInt_le] at hk; omega
    rw [je_285, if_pos (st_is H), je_286, if_pos (st_is H), g0, jk_bs, jk_bs, r1, show Int32.ofNat 8 = 8 from rfl]
    by_cases h0 : k < 0
    · simp [h0, jk_r0, jk_cI, jf_ref, e0, e1, e2, e3, e4, e5, e6, e7]
    · simp [h0, e9 h0, jk_r0, jk_cI, jf_ref, e0, e1, e2, e3, e4, e5, e6, e7]
end
