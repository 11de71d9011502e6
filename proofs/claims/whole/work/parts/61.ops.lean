/-! Calls on all that stands: what they answer, what they leave; the class's trail -/
abbrev jSt := (Nat → Int32) × jT × jH × jE × jC × jG × jP
def CSt (h : jxH) (σ : jSt) : Prop := CS h σ.1 σ.2.1 σ.2.2.1 σ.2.2.2.1 σ.2.2.2.2.1 σ.2.2.2.2.2.1 σ.2.2.2.2.2.2
def RSt (h : jxH) (σ : jSt) : Prop := RS h σ.1 σ.2.1 σ.2.2.1 σ.2.2.2.1 σ.2.2.2.2.1 σ.2.2.2.2.2.1 σ.2.2.2.2.2.2
def AWt (σ : jSt) : Prop := AW σ.2.1 σ.2.2.1 σ.2.2.2.1 σ.2.2.2.2.1 σ.2.2.2.2.2.1 σ.2.2.2.2.2.2
def er (σ : jSt) (k : Nat) : Int32 × jSt := ((-1100000000 : Int32) - Int32.ofNat k, (upd σ.1 k (σ.1 k + 1), σ.2))
def sF (σ : jSt) : jF := tr_F σ.2.1
def hand (σ : jSt) (f : jF) : jSt := (σ.1, tr_0 σ.2.1 f, σ.2.2)
def cF (h h' : jxH) : Prop := h.1 ≤ h'.1 ∧ h'.1 ≤ h.1 + 3 ∧ h'.2.1 ≤ h.2.1 + 27 ∧ ∀ x, 336 ≤ x → x < 451 → jx_at h' x = jx_at h x
theorem cF.of {P : Nat → Prop} {h h' : jxH} (F : Fr P h h') (hP : ∀ x, P x → x < 336) : cF h h' :=
  ⟨by rw [F.1]; omega, by rw [F.1]; omega, by rw [F.2.1]; omega, fun x h1 _ => F.2.2 x fun q => by have := hP x q; omega⟩
theorem cF.then {P : Nat → Prop} {h h1 h' : jxH} (F : cF h h1) (G : Fr P h1 h') (hP : ∀ x, P x → x < 336) : cF h h' :=
  ⟨by rw [G.1]; exact F.1, by rw [G.1]; exact F.2.1, by rw [G.2.1]; exact F.2.2.1, fun x h1 h2 => (G.2.2 x fun q => by have := hP x q; omega).trans (F.2.2.2 x h1 h2)⟩
-- moves and the trail
def jf_sign (f : jF) (m : jM) : Int32 := if m.1 = 0 then jF_w f m.2.1 else if m.1 = 1 then m.2.2.2.1 else if m.1 = 2 then m.2.2.2.1 else if m.1 = 3 then m.2.2.2.1 else if m.1 = 6 then (if bc f.2.2 % 2 = 0 then 1 else -1) else -1
def tr_push (t : jT) (m : jM) : jT := (t.1 + 1, t.1 + 1, va_up t.2.2.1 t.1 m, upd t.2.2.2.1 t.1 (jf_sign (tr_F t) m), fun i => if i ≤ t.1 then t.2.2.2.2 i else jf_act (tr_F t) m)
def jk_prod (g : Nat → Int32) : Nat → Int32
  | 0 => 1
  | n + 1 => jk_prod g n * g n
theorem jr_has_0 {k : Int32} (b : Int32) (hb : b = 1 ∨ b = 2 ∨ b = 4 ∨ b = 8) : (0 : Int32) &&& b = 0 := by rcases hb with rfl | rfl | rfl | rfl <;> decide
theorem jm_norm_idem (m : jM) : jm_norm (jm_norm m) = jm_norm m := by
  obtain ⟨k, p, q, v, s⟩ := m
  unfold jm_norm
  dsimp only
  congr 1
  congr 1
  · split <;> rfl
  · congr 1
    · split <;> rfl
    · congr 1
      · split <;> rfl
      · split <;> rfl
def P8 (x : Int32) : Prop := ∃ k : Nat, k < 8 ∧ x = Int32.ofNat k
theorem P8_ite {c : Prop} [Decidable c] {x y : Int32} (h1 : P8 x) (h2 : P8 y) : P8 (if c then x else y) := by split <;> assumption
theorem jf_ref_lt (f : jF) (b : Bool) (m : jM) : P8 (jf_ref f b m) := by
  unfold jf_ref
  repeat' apply P8_ite
  all_goals first
    | exact ⟨0, by decide, rfl⟩
    | exact ⟨1, by decide, rfl⟩
    | exact ⟨3, by decide, rfl⟩
    | exact ⟨4, by decide, rfl⟩
    | exact ⟨5, by decide, rfl⟩
def ref_n (f : jF) (b : Bool) (m : jM) : Nat := (jf_ref f b m).toNatClampNeg
theorem ref_n_eq (f : jF) (b : Bool) (m : jM) : jf_ref f b m = Int32.ofNat (ref_n f b m) ∧ ref_n f b m < 8 := by
  obtain ⟨k, hk, e⟩ := jf_ref_lt f b m
  unfold ref_n
  rw [e, jk_cl (by omega)]
  exact ⟨rfl, hk⟩
def ref_g (x : Int32) : Int32 := if x = 0 ∨ x = 5 then 4 else x
theorem ref_g_ite {c : Prop} [Decidable c] (x y : Int32) : ref_g (if c then x else y) = if c then ref_g x else ref_g y := by split <;> rfl
theorem jf_ref_full (f : jF) (m : jM) : jf_ref f true m = ref_g (jf_ref f false m) := by
  have g0 : ref_g 0 = 4 := by decide
  have g1 : ref_g 1 = 1 := by decide
  have g3 : ref_g 3 = 3 := by decide
  have g4 : ref_g 4 = 4 := by decide
  have g5 : ref_g 5 = 4 := by decide
  unfold jf_ref
  simp only [ref_g_ite, g0, g1, g3, g4, g5, if_true, true_or, Bool.false_eq_true, false_or, if_false, ite_self]
theorem jf_act_norm (f : jF) (m : jM) (hk : m.1 = 0 ∨ m.1 = 1 ∨ m.1 = 2 ∨ m.1 = 3 ∨ m.1 = 4 ∨ m.1 = 5 ∨ m.1 = 6 ∨ m.1 = 7) : jf_act f (jm_norm m) = jf_act f m ∧ jf_sign f (jm_norm m) = jf_sign f m := by
  obtain ⟨k, p, q, v, s⟩ := m
  have h0 : jr_has 0 = 1 := by decide
  have h1 : jr_has 1 = 7 := by decide
  have h2 : jr_has 2 = 5 := by decide
  have h3 : jr_has 3 = 4 := by decide
  have h4 : jr_has 4 = 1 := by decide
  have h5 : jr_has 5 = 1 := by decide
  have h6 : jr_has 6 = 0 := by decide
  have h7 : jr_has 7 = 13 := by decide
  rcases hk with rfl | rfl | rfl | rfl | rfl | rfl | rfl | rfl <;>
    simp [jf_act, jf_sign, jm_norm, h0, h1, h2, h3, h4, h5, h6, h7, jk_l1_1, jk_l1_2, jk_l1_4, jk_l1_8, jk_l7_1, jk_l7_2, jk_l7_4, jk_l7_8, jk_l5_1, jk_l5_2, jk_l5_4, jk_l5_8, jk_l4_1, jk_l4_2, jk_l4_4, jk_l4_8, jk_l13_1, jk_l13_2, jk_l13_4, jk_l13_8]
theorem jf_ref_norm (f : jF) (b : Bool) (m : jM) : jf_ref f b (jm_norm m) = jf_ref f b m := by
  obtain ⟨k, p, q, v, s⟩ := m
  have h0 : jr_has 0 = 1 := by decide
  have h1 : jr_has 1 = 7 := by decide
  have h2 : jr_has 2 = 5 := by decide
  have h3 : jr_has 3 = 4 := by decide
  have h4 : jr_has 4 = 1 := by decide
  have h5 : jr_has 5 = 1 := by decide
  have h6 : jr_has 6 = 0 := by decide
  have h7 : jr_has 7 = 13 := by decide
  unfold jf_ref jm_norm
  dsimp only
  by_cases e0 : k = 0
  · subst e0; simp [h0, jk_l1_1]
  by_cases e1 : k = 1
  · subst e1; simp [h1, jk_l7_1, jk_l7_2, jk_l7_4]
  by_cases e2 : k = 2
  · subst e2; simp [h2, jk_l5_1, jk_l5_4]
  by_cases e3 : k = 3
  · subst e3; simp [h3, jk_l4_4]
  by_cases e4 : k = 4
  · subst e4; simp [h4, jk_l1_1]
  by_cases e5 : k = 5
  · subst e5; simp [h5, jk_l1_1]
  by_cases e6 : k = 6
  · subst e6; simp
  by_cases e7 : k = 7
  · subst e7; simp [h7, jk_l13_1, jk_l13_4, jk_l13_8]
  simp [e0, e1, e2, e3, e4, e5, e6, e7]
section
variable {rc : Nat → Nat × (Nat → Int32)} {h : jxH} {a t : Nat} {f : jF} {m : jM} {sg : Int32}
theorem jk_odd (x : Int32) : ((Int32.ofNat (bc x) &&& 1) = 0) ↔ bc x % 2 = 0 := by
  have h : ∀ n : Nat, n ≤ 12 → ((Int32.ofNat n &&& 1 = 0) ↔ n % 2 = 0) := by decide
  exact h _ (bc_le x)
theorem st_signOn (H : st_at h t m sg) (G : fo_at h a f) (hs : S12 f.2.2) (hk : m.1 = 0 ∨ m.1 = 1 ∨ m.1 = 2 ∨ m.1 = 3 ∨ m.1 = 4 ∨ m.1 = 5 ∨ m.1 = 6 ∨ m.1 = 7) (d : Nat) : jx_C rc (d + 3) 289 [.ref t, .ref a] h = some (some (.int (jf_sign f m)), h) := by
  obtain ⟨k, p, q, v, s⟩ := m
  have g0 : jx_gI (jx_at h t) 6 0 = some k := st_g0 H
  have g1 : jx_gI (jx_at h t) 6 1 = some p := st_g1 H
  have g3 : jx_gI (jx_at h t) 6 3 = some v := st_g3 H
  rcases hk with rfl | rfl | rfl | rfl | rfl | rfl | rfl | rfl <;>
    simp [je_289, st_is H, g0, g1, g3, fo_weightAt G, fo_size G hs, jk_cI, jf_sign, jk_odd]
  split <;> rfl
-- the class's object
theorem co_e {im : jG} (C : c_im h im) : jx_is (jx_at h 0) 11 = true ∧ jx_gR (jx_at h 0) 11 0 = some 1 ∧ jx_gR (jx_at h 0) 11 1 = some 2 ∧ jx_gR (jx_at h 0) 11 2 = some 5 ∧ jx_gR (jx_at h 0) 11 3 = some 8 ∧ jx_gR (jx_at h 0) 11 4 = some 12 ∧ jx_gR (jx_at h 0) 11 5 = some 174 ∧ jx_gR (jx_at h 0) 11 6 = some 178 ∧ jx_gR (jx_at h 0) 11 7 = some 186 ∧ jx_gR (jx_at h 0) 11 8 = some 241 ∧ jx_gR (jx_at h 0) 11 9 = some 243 ∧ jx_gR (jx_at h 0) 11 10 = some 320 ∧ jx_gR (jx_at h 0) 11 11 = some 323 ∧ jx_gR (jx_at h 0) 11 12 = some 324 ∧ jx_gR (jx_at h 0) 11 13 = some 325 ∧ jx_gR (jx_at h 0) 11 14 = some 329 ∧ jx_gR (jx_at h 0) 11 15 = some 332 ∧ jx_gI (jx_at h 0) 11 16 = some (jk_b im.isSome) := by
  rw [C.1]; exact ⟨rfl, rfl, rfl, rfl, rfl, rfl, rfl, rfl, rfl, rfl, rfl, rfl, rfl, rfl, rfl, rfl, rfl, rfl⟩
variable {σ : jSt}
theorem CSt.o (C : CSt h σ) : c_im h σ.2.2.2.2.2.1 := C.2.2.2.2.2.1
theorem CSt.is (C : CSt h σ) : jx_is (jx_at h 0) 11 = true := (co_e C.o).1
theorem CSt.g0 (C : CSt h σ) : jx_gR (jx_at h 0) 11 0 = some 1 := (co_e C.o).2.1
theorem CSt.g1 (C : CSt h σ) : jx_gR (jx_at h 0) 11 1 = some 2 := (co_e C.o).2.2.1
theorem CSt.g2 (C : CSt h σ) : jx_gR (jx_at h 0) 11 2 = some 5 := (co_e C.o).2.2.2.1
theorem CSt.g3 (C : CSt h σ) : jx_gR (jx_at h 0) 11 3 = some 8 := (co_e C.o).2.2.2.2.1
theorem CSt.g4 (C : CSt h σ) : jx_gR (jx_at h 0) 11 4 = some 12 := (co_e C.o).2.2.2.2.2.1
theorem CSt.g5 (C : CSt h σ) : jx_gR (jx_at h 0) 11 5 = some 174 := (co_e C.o).2.2.2.2.2.2.1
theorem CSt.g6 (C : CSt h σ) : jx_gR (jx_at h 0) 11 6 = some 178 := (co_e C.o).2.2.2.2.2.2.2.1
theorem CSt.g7 (C : CSt h σ) : jx_gR (jx_at h 0) 11 7 = some 186 := (co_e C.o).2.2.2.2.2.2.2.2.1
theorem CSt.g8 (C : CSt h σ) : jx_gR (jx_at h 0) 11 8 = some 241 := (co_e C.o).2.2.2.2.2.2.2.2.2.1
theorem CSt.g9 (C : CSt h σ) : jx_gR (jx_at h 0) 11 9 = some 243 := (co_e C.o).2.2.2.2.2.2.2.2.2.2.1
theorem CSt.g10 (C : CSt h σ) : jx_gR (jx_at h 0) 11 10 = some 320 := (co_e C.o).2.2.2.2.2.2.2.2.2.2.2.1
theorem CSt.g11 (C : CSt h σ) : jx_gR (jx_at h 0) 11 11 = some 323 := (co_e C.o).2.2.2.2.2.2.2.2.2.2.2.2.1
theorem CSt.g12 (C : CSt h σ) : jx_gR (jx_at h 0) 11 12 = some 324 := (co_e C.o).2.2.2.2.2.2.2.2.2.2.2.2.2.1
theorem CSt.g13 (C : CSt h σ) : jx_gR (jx_at h 0) 11 13 = some 325 := (co_e C.o).2.2.2.2.2.2.2.2.2.2.2.2.2.2.1
theorem CSt.g14 (C : CSt h σ) : jx_gR (jx_at h 0) 11 14 = some 329 := (co_e C.o).2.2.2.2.2.2.2.2.2.2.2.2.2.2.2.1
theorem CSt.g15 (C : CSt h σ) : jx_gR (jx_at h 0) 11 15 = some 332 := (co_e C.o).2.2.2.2.2.2.2.2.2.2.2.2.2.2.2.2.1
theorem CSt.g16 (C : CSt h σ) : jx_gI (jx_at h 0) 11 16 = some (jk_b σ.2.2.2.2.2.1.isSome) := (co_e C.o).2.2.2.2.2.2.2.2.2.2.2.2.2.2.2.2.2
theorem CSt.F (C : CSt h σ) : fo_at h 2 (sF σ) := C.2.1
theorem CSt.tr (C : CSt h σ) : c_tr h σ.2.1 := C.2.2.1
theorem CSt.scr (C : CSt h σ) : c_scr h := C.2.2.2.2.2.2.2
theorem AWt.tr (A : AWt σ) : tr_W σ.2.1 := A.1
theorem tr_W.all {t : jT} (A : tr_W t) : ∀ i, i ≤ t.2.1 → jf_W (t.2.2.2.2 i)
  | 0, _ => A.2.2.1
  | i + 1, hi => by
    obtain ⟨e1, e2, -⟩ := A.2.2.2 i (by omega)
    rw [e2]; exact jf_W_act (tr_W.all A i (by omega)) e1
theorem AWt.W (A : AWt σ) : jf_W (sF σ) := A.tr.all _ A.tr.1
theorem AWt.B (A : AWt σ) : jf_B (sF σ) := A.W.1
/-- refuse() -/
theorem cc_refuse (C : CSt h σ) (A : AWt σ) {k : Nat} (h1 : 1 ≤ k) (h7 : k ≤ 7) {K : Int32} (hK : K = Int32.ofNat k) : ∃ h', (∀ d, jx_C rc (d + 1) 53 [.ref 0, .int K] h = some (some (.int (er σ k).1), h')) ∧ CSt h' (er σ k).2 ∧ cF h h' := by
  subst hK
  obtain ⟨G, e, q⟩ := C.1
  refine ⟨jx_set h 1 (jxI 0 8 (upd G k (G k + 1))), fun d => ?_, CS_told A.tr.2.1 C Fr.one ⟨_, jk_at_self .., fun j hj => ?_⟩, cF.of Fr.one (by omega)⟩
  · rw [je_53, if_pos C.is, if_neg (by rw [show (0 : Int32) = Int32.ofNat 0 from rfl, jk_le (by omega) (by decide)]; omega), C.g0, jk_bs, e, show jx_len (jxI 0 8 G) = some 8 from rfl, jk_bs, if_neg (by rw [jk_le (by decide) (by omega)]; omega), jk_bs, e, jk_aI (by omega) (by decide), jk_bs, jk_sI (by omega) (by decide)]
    rfl
  · show upd G k (G k + 1) j = upd σ.1 k (σ.1 k + 1) j
    unfold upd
    split
    · rename_i z; subst z; rw [q j hj]
    · exact q j hj
def op_tell (σ : jSt) (x : Int64) : Int32 × jSt := if x < -1073741824 then er σ 5 else if 1073741823 < x then er σ 5 else (x.toInt32, σ)
theorem cc_tell (C : CSt h σ) (A : AWt σ) (x : Int64) : ∃ h', (∀ d, jx_C rc (d + 2) 54 [.ref 0, .long x] h = some (some (.int (op_tell σ x).1), h')) ∧ CSt h' (op_tell σ x).2 ∧ cF h h' := by
  obtain ⟨h', r1, r2, r3⟩ := cc_refuse (rc := rc) C A (k := 5) (by decide) (by decide) (K := 5) rfl
  unfold op_tell
  by_cases c1 : x < -1073741824
  · rw [if_pos c1]
    refine ⟨h', fun d => ?_, r2, r3⟩
    rw [je_54, if_pos C.is, if_pos ((lg_lt0 _ _).mpr c1), r1, jk_cI]
  · rw [if_neg c1]
    by_cases c2 : 1073741823 < x
    · rw [if_pos c2]
      refine ⟨h', fun d => ?_, r2, r3⟩
      rw [je_54, if_pos C.is, if_neg (fun q => c1 ((lg_lt0 _ _).mp q)), if_neg (fun q => by have := (lg_cmp_le _ _).mp q; rw [Int64.le_iff_toInt_le] at this; rw [Int64.lt_iff_toInt_lt] at c2; omega), r1, jk_cI]
    · rw [if_neg c2]
      refine ⟨h, fun d => ?_, C, cF.of (P := fun _ => False) Fr.rfl (fun _ q => q.elim)⟩
      rw [je_54, if_pos C.is, if_neg (fun q => c1 ((lg_lt0 _ _).mp q)), if_pos ((lg_cmp_le _ _).mpr (by rw [Int64.le_iff_toInt_le]; rw [Int64.lt_iff_toInt_lt] at c2; omega))]
/-- the forest is another one, by hand -/
theorem cc_hand {P : Nat → Prop} {h1 : jxH} {g : jF} (C : CSt h σ) (A : AWt σ) (F : Fr P h h1) (hP : ∀ x, P x → (2 ≤ x ∧ x < 5) ∨ c_scrP x) (G : fo_at h1 2 g) (K : c_scr h1) : ∃ h', (∀ d, jx_C rc (d + 1) 313 [.ref 12] h1 = some (none, h')) ∧ CSt h' (hand σ g) ∧ cF h h' ∧ (∀ x, x ≠ 12 → jx_at h' x = jx_at h1 x) ∧ fo_at h' 2 g := by
  have hP2 : ∀ x, P x → ¬ (12 ≤ x ∧ x < 174) := fun x hx q => by
    rcases hP x hx with z | z
    · omega
    · unfold c_scrP at z; omega
  obtain ⟨o, ⟨Q, q1, q2⟩, s, k⟩ := tr_fr F (fun x a b z => hP2 x z ⟨a, b⟩) A.tr.2.1 C.tr
  have F2 : Fr (fun x => x = 12) h1 (jx_set h1 12 (jxO 9 [.ref 13, .int (Int32.ofNat 0), .int (Int32.ofNat 0)])) := Fr.one
  have F3 : Fr (fun x => P x ∨ x = 12) h (jx_set h1 12 (jxO 9 [.ref 13, .int (Int32.ofNat 0), .int (Int32.ofNat 0)])) := (F.mono fun x q => Or.inl q).trans (F2.mono fun x q => Or.inr q)
  have G2 := fo_fr F2 (fun x a b => by omega) G
  have Pl : ∀ x, P x → 2 ≤ x ∧ x < 320 := fun x hx => by
    rcases hP x hx with z | z
    · omega
    · unfold c_scrP at z; omega
  refine ⟨_, fun d => ?_, CS_tr (t' := tr_0 σ.2.1 g) C F3 (fun x q => ?_) G2 ⟨jk_at_self .., ⟨Q, (F2.2.2 _ (by omega)).trans q1, q2⟩, fun i hi => sk_fr F2 (fun x a b => by omega) (s i hi), fun i hi => absurd hi (Nat.not_lt_zero i)⟩ (scr_fr F2 (fun x a => by unfold c_scrP at a; omega) K), cF.of F3 (fun x q => ?_), fun x hx => F2.2.2 x hx, G2⟩
  · rw [je_313, o]
    show (if true = true then _ else _) = _
    rw [if_pos rfl, show jx_pF (jxO 9 [Value.ref 13, Value.int (Int32.ofNat σ.2.1.1), Value.int (Int32.ofNat σ.2.1.2.1)]) 9 1 (.int 0) = some (jxO 9 [Value.ref 13, Value.int 0, Value.int (Int32.ofNat σ.2.1.2.1)]) from rfl, jk_bs, jk_at_self, show jx_pF (jxO 9 [Value.ref 13, Value.int 0, Value.int (Int32.ofNat σ.2.1.2.1)]) 9 2 (.int 0) = some (jxO 9 [Value.ref 13, Value.int (Int32.ofNat 0), Value.int (Int32.ofNat 0)]) from rfl, jk_bs, jk_set_set]
  · rcases q with q | q
    · exact Pl x q
    · omega
  · rcases q with q | q
    · have := Pl x q; omega
    · omega
end
