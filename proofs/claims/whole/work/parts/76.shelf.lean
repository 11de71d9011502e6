/-! fetch, drop, keep -/
def jp_four (k : Int32) : Bool := if k < 0 then false else if k < 4 then true else false
theorem jp_four_iff {k : Int32} : jp_four k = true ↔ ∃ j, j < 4 ∧ k = Int32.ofNat j := by
  unfold jp_four
  constructor
  · intro h
    by_cases c1 : k < 0
    · rw [if_pos c1] at h; cases h
    · rw [if_neg c1] at h
      by_cases c2 : k < 4
      · have e := jk_of c1
        have l := jk_of_lt k
        refine ⟨_, ?_, e⟩
        rw [e, show (4 : Int32) = Int32.ofNat 4 from rfl, jk_lt l (by decide)] at c2
        exact c2
      · rw [if_neg c2] at h; cases h
  · rintro ⟨j, hj, rfl⟩
    rw [if_neg (jk_nn (by omega)), if_pos (by rw [show (4 : Int32) = Int32.ofNat 4 from rfl, jk_lt (by omega) (by decide)]; exact hj)]
theorem jp_four_hi (k : Int32) : jp_hi k 3 = jp_four k := by
  cases h : jp_four k
  · cases h2 : jp_hi k 3
    · rfl
    · obtain ⟨j, hj, e⟩ := (jp_hi_iff (n := 3) (by decide)).mp h2
      rw [jp_four_iff.mpr ⟨j, by omega, e⟩] at h; cases h
  · obtain ⟨j, hj, e⟩ := jp_four_iff.mp h
    exact (jp_hi_iff (n := 3) (by decide)).mpr ⟨j, by omega, e⟩
def op_fetch (σ : jSt) (k : Int32) : Int32 × jSt := if jp_four k = true then (match σ.2.2.1 (pn k) with
  | some f => (Int32.ofNat (bc f.2.2), hand σ f)
  | none => er σ 7) else er σ 1
def op_drop (σ : jSt) (k : Int32) : Int32 × jSt := if jp_four k = true then (jk_b (σ.2.2.1 (pn k)).isSome, (σ.1, σ.2.1, va_up σ.2.2.1 (pn k) none, σ.2.2.2)) else er σ 1
def op_keep (σ : jSt) (k : Int32) : Int32 × jSt := if jp_four k = true then (Int32.ofNat (bc (sF σ).2.2), (σ.1, σ.2.1, va_up σ.2.2.1 (pn k) (some (sF σ)), σ.2.2.2)) else er σ 1
theorem pn_4 {j : Nat} (hj : j < 4) : pn (Int32.ofNat j) = j := jk_cl (by omega)
section
variable {rc : Nat → Nat × (Nat → Int32)} {h h' : jxH} {σ : jSt} {P : Nat → Prop}
theorem CS_dyn {T : Nat → Int32} {t : jT} {sh sh' : jH} {ss ss' : jE} {c : jC} {im : jG} {p : jP} (ht : t.2.1 ≤ 40) (H : CS h T t sh ss c im p) (F : ∀ x, x < 451 → x ≠ 323 → x ≠ 324 → jx_at h' x = jx_at h x) (S : c_dyn h' sh' ss') : CS h' T t sh' ss' c im p := by
  obtain ⟨h1, h2, h3, h4, h5, h6, h7, h8⟩ := H
  have FQ : Fr (fun x => x = 323 ∨ x = 324 ∨ 451 ≤ x) h (h.1, h.2.1, h'.2.2) := ⟨rfl, rfl, fun x q => F x (by omega) (by omega) (by omega)⟩
  have a1 := told_fr FQ (by omega) h1
  have a2 := fo_fr FQ (fun x a b => by omega) h2
  have a3 := tr_fr FQ (fun x a b => by omega) ht h3
  have a5 := cr_fr FQ (fun x a b => by omega) h5
  have a6 := im_fr FQ (by omega) (fun x a b => by omega) h6
  have a7 := tp_fr FQ (fun x a b => by omega) h7
  have a8 := scr_fr FQ (fun x a => by unfold c_scrP at a; omega) h8
  exact ⟨a1, a2, a3, S, a5, a6, a7, a8⟩
theorem CSt.dyn (C : CSt h σ) : c_dyn h σ.2.2.1 σ.2.2.2.1 := C.2.2.2.1
/-- swap() -/
theorem cc_swap (C : CSt h σ) (A : AWt σ) {b : Nat} {f : jF} (G : fo_at h b f) (hb : 5 ≤ b) (hS : S12 f.2.2) : ∃ h', (∀ d, jx_C rc (d + 10) 55 [.ref 0, .ref b] h = some (some (.int (Int32.ofNat (bc f.2.2))), h')) ∧ CSt h' (hand σ f) ∧ cF h h' := by
  obtain ⟨h1, r1, r2, r3⟩ := fo_follow (rc := rc) C.F G (Or.inl hb)
  obtain ⟨h2, s1, s2, s3, s4, s5⟩ := cc_hand (rc := rc) C A r3 (fun x q => jI23 q) r2 (c_scr2 r3 (fun x q => ⟨q.1, by have := q.2; omega⟩) C)
  have o1 : jx_at h1 0 = jx_at h 0 := r3.2.2 0 (fun q => by have := q.1; omega)
  refine ⟨h2, fun d => ?_, s2, s3⟩
  rw [je_55, if_pos C.is, C.g1, jk_bs, r1, jk_cV, o1, C.g4, jk_bs, s1, jk_cV, s2.g1, jk_bs, fo_size s5 hS, jk_cI]
theorem cc_fetch (C : CSt h σ) (A : AWt σ) (k : Int32) : ∃ h', (∀ d, jx_C rc (d + 20) 29 [.ref 0, .int k] h = some (some (.int (op_fetch σ k).1), h')) ∧ CSt h' (op_fetch σ k).2 ∧ cF h h' := by
  unfold op_fetch
  obtain ⟨e', e1, e2, e3⟩ := cc_refuse (rc := rc) C A (k := 1) (by decide) (by decide) (K := 1) rfl
  by_cases c0 : jp_four k = true
  · rw [if_pos c0]
    obtain ⟨j, hj, rfl⟩ := jp_four_iff.mp c0
    rw [pn_4 hj]
    obtain ⟨Q, R, q, r, n, a1, -⟩ := C.dyn
    have st : ∀ d, jx_C rc (d + 20) 29 [.ref 0, .int (Int32.ofNat j)] h = _ := fun d => by
      rw [je_29, if_pos C.is, if_neg (jk_nn (by omega)), if_pos (by rw [show (4 : Int32) = Int32.ofNat 4 from rfl, jk_lt (by omega) (by decide)]; exact hj), C.g11, jk_bs, q, jk_aQ hj (by decide), jk_bs]
    rcases a1 j hj with ⟨b1, b2⟩ | ⟨f, b, b1, b2, b3, b4, b5⟩
    · rw [b1]
      obtain ⟨f', f1, f2, f3⟩ := cc_refuse (rc := rc) C A (k := 7) (by decide) (by decide) (K := 7) rfl
      refine ⟨f', fun d => ?_, f2, f3⟩
      rw [st d, b2, jk_mon, f1, jk_cI]
    · rw [b1]
      obtain ⟨h1, r1, r2, r3⟩ := cc_swap (rc := rc) C A b5 (by omega) (A.2.1 j f hj b1).1.s
      refine ⟨h1, fun d => ?_, r2, r3⟩
      rw [st d, b2, jk_mos, r1, jk_cI]
  · rw [if_neg c0]
    refine ⟨e', fun d => ?_, e2, e3⟩
    unfold jp_four at c0
    rw [je_29, if_pos C.is]
    by_cases c1 : k < 0
    · rw [if_pos c1, e1, jk_cI]
    · rw [if_neg c1] at c0 ⊢
      rw [if_neg (fun z => c0 (if_pos z)), e1, jk_cI]
theorem cc_drop (C : CSt h σ) (A : AWt σ) (k : Int32) : ∃ h', (∀ d, jx_C rc (d + 20) 30 [.ref 0, .int k] h = some (some (.int (op_drop σ k).1), h')) ∧ CSt h' (op_drop σ k).2 ∧ cF h h' := by
  unfold op_drop
  obtain ⟨e', e1, e2, e3⟩ := cc_refuse (rc := rc) C A (k := 1) (by decide) (by decide) (K := 1) rfl
  by_cases c0 : jp_four k = true
  · rw [if_pos c0]
    obtain ⟨j, hj, rfl⟩ := jp_four_iff.mp c0
    rw [pn_4 hj]
    obtain ⟨Q, R, q, r, n, a1, a2, a3, a4⟩ := C.dyn
    have F : Fr (fun x => x = 323) h (jx_set h 323 (jxQ 4 4 (va_up Q j none))) := Fr.one
    refine ⟨jx_set h 323 (jxQ 4 4 (va_up Q j none)), fun d => ?_, ?_, cF.of F (fun x q => by omega)⟩
    · rw [je_30, if_pos C.is, if_neg (jk_nn (by omega)), if_pos (by rw [show (4 : Int32) = Int32.ofNat 4 from rfl, jk_lt (by omega) (by decide)]; exact hj), C.g11, jk_bs, q, jk_aQ hj (by decide), jk_bs]
      rcases a1 j hj with ⟨b1, b2⟩ | ⟨f, b, b1, b2, b3, b4, b5⟩
      · rw [b2, jk_mon, jk_bs, q, jk_sQ hj (by decide), jk_bs, b1]
        rfl
      · rw [b2, jk_mos, jk_bs, q, jk_sQ hj (by decide), jk_bs, b1]
        rfl
    · refine CS_dyn A.tr.2.1 C (fun x h1 h2 h3 => F.2.2 x h2) ⟨va_up Q j none, R, jk_at_self .., (F.2.2 324 (by decide)).trans r, n, fun i hi => ?_, fun i hi => ?_, a3, fun i i' b b' h1 h2 h3 h4 => ?_⟩
      · unfold va_up
        dsimp only
        by_cases z : i = j
        · rw [if_pos z, if_pos z]; exact Or.inl ⟨rfl, rfl⟩
        · rw [if_neg z, if_neg z]
          rcases a1 i hi with b | ⟨f, b, b1, b2, b3, b4, b5⟩
          · exact Or.inl b
          · exact Or.inr ⟨f, b, b1, b2, b3, b4, fo_fr F (fun x _ _ => by omega) b5⟩
      · rcases a2 i hi with b | ⟨f, b, b1, b2, b3, b4, b5, g, b6, b7⟩
        · exact Or.inl b
        · exact Or.inr ⟨f, b, b1, b2, b3, b4, (F.2.2 _ (by omega)).trans b5, g, (F.2.2 _ (by omega)).trans b6, b7⟩
      · unfold va_up at h4
        by_cases z : i' = j
        · rw [if_pos z] at h4; cases h4
        · rw [if_neg z] at h4; exact a4 i i' b b' h1 h2 h3 h4
  · rw [if_neg c0]
    refine ⟨e', fun d => ?_, e2, e3⟩
    unfold jp_four at c0
    rw [je_30, if_pos C.is]
    by_cases c1 : k < 0
    · rw [if_pos c1, e1, jk_cI]
    · rw [if_neg c1] at c0 ⊢
      rw [if_neg (fun z => c0 (if_pos z)), e1, jk_cI]
theorem jk_new_ne (h : jxH) {n b : Nat} (e : jxE) (hb : b ≠ h.1) : jx_at (jx_new h n e) b = jx_at h b := by rw [jk_at_new, if_neg hb]
theorem jk_new_self (h : jxH) {n b : Nat} (e : jxE) (hb : b = h.1) : jx_at (jx_new h n e) b = e := by rw [jk_at_new, if_pos hb]
/-- a new forest -/
theorem fo_new (h : jxH) : ∃ h', (∀ d, jx_C rc (d + 1) 223 [.ref h.1] (jx_new h 3 (.inl (1, jx_dflt 1))) = some (none, h')) ∧ fo_at h' h.1 jf_0 ∧ h'.1 = h.1 + 3 ∧ h'.2.1 = h.2.1 + 27 ∧ ∀ x, x < h.1 → jx_at h' x = jx_at h x := by
  have t12 : ((12 : Int32)).toNatClampNeg = 12 := by decide
  have n12 : ¬ ((12 : Int32) < 0 ∨ 5000 < (12 : Int32)) := by decide
  refine ⟨jx_set (jx_new (jx_set (jx_new (jx_new h 3 (.inl (1, jx_dflt 1))) 12 (jx_arr 0 12)) h.1 (jxO 1 [.ref (h.1 + 1), .null, .int 0])) 12 (jx_arr 0 12)) h.1 (jxO 1 [.ref (h.1 + 1), .ref (h.1 + 1 + 1), .int 0]), fun d => ?_, ?_⟩
  · rw [je_223, if_pos (by rw [jk_at_new, if_pos rfl]; rfl), if_neg n12, t12]
    rw [show jx_at (jx_new (jx_new h 3 (.inl (1, jx_dflt 1))) 12 (jx_arr 0 12)) h.1 = jxO 1 [.null, .null, .int 0] by rw [jk_new_ne _ _ (show h.1 ≠ h.1 + 1 by omega), jk_new_self _ _ rfl]; rfl, show jx_pF (jxO 1 [.null, .null, .int 0]) 1 0 (.ref (jx_new h 3 (.inl (1, jx_dflt 1))).1) = some (jxO 1 [.ref (h.1 + 1), .null, .int 0]) from rfl, jk_bs, if_neg n12]
    rw [show jx_at (jx_new (jx_set (jx_new (jx_new h 3 (.inl (1, jx_dflt 1))) 12 (jx_arr 0 12)) h.1 (jxO 1 [.ref (h.1 + 1), .null, .int 0])) 12 (jx_arr 0 12)) h.1 = jxO 1 [.ref (h.1 + 1), .null, .int 0] by rw [jk_new_ne _ _ (show h.1 ≠ h.1 + 1 + 1 by omega), jk_at_self], show jx_pF (jxO 1 [.ref (h.1 + 1), .null, .int 0]) 1 1 (.ref (jx_set (jx_new (jx_new h 3 (.inl (1, jx_dflt 1))) 12 (jx_arr 0 12)) h.1 (jxO 1 [.ref (h.1 + 1), .null, .int 0])).1) = some (jxO 1 [.ref (h.1 + 1), .ref (h.1 + 1 + 1), .int 0]) from rfl, jk_bs]
  · refine ⟨⟨jk_at_self .., ⟨fun _ => 0, ?_, fun _ _ => rfl⟩, fun _ => 0, ?_, fun _ _ => rfl⟩, rfl, rfl, fun x hx => ?_⟩
    · rw [jk_at_ne _ _ (by omega), jk_new_ne _ _ (show h.1 + 1 ≠ h.1 + 1 + 1 by omega), jk_at_ne _ _ (by omega), jk_new_self _ _ (show h.1 + 1 = h.1 + 1 from rfl)]; rfl
    · rw [jk_at_ne _ _ (by omega), jk_new_self _ _ (show h.1 + 2 = h.1 + 1 + 1 from rfl)]; rfl
    · rw [jk_at_ne _ _ (by omega), jk_new_ne _ _ (show x ≠ h.1 + 1 + 1 by omega), jk_at_ne _ _ (by omega), jk_new_ne _ _ (show x ≠ h.1 + 1 by omega), jk_new_ne _ _ (by omega)]
theorem cc_keep (C : CSt h σ) (A : AWt σ) (k : Int32) : ∃ h', (∀ d, jx_C rc (d + 20) 28 [.ref 0, .int k] h = some (some (.int (op_keep σ k).1), h')) ∧ CSt h' (op_keep σ k).2 ∧ cF h h' := by
  unfold op_keep
  obtain ⟨e', e1, e2, e3⟩ := cc_refuse (rc := rc) C A (k := 1) (by decide) (by decide) (K := 1) rfl
  by_cases c0 : jp_four k = true
  · rw [if_pos c0]
    obtain ⟨j, hj, rfl⟩ := jp_four_iff.mp c0
    rw [pn_4 hj]
    obtain ⟨Q, R, q, r, n, a1, a2, a3, a4⟩ := C.dyn
    obtain ⟨h1, r1, r2, r3, r4, r5⟩ := fo_new (rc := rc) h
    have F1 : fo_at h1 2 (sF σ) := by
      have FQ : Fr (fun x => h.1 ≤ x) h (h.1, h.2.1, h1.2.2) := ⟨rfl, rfl, fun x q => r5 x (by omega)⟩
      have := fo_fr FQ (fun x a b => by show ¬ h.1 ≤ x; omega) C.F
      exact this
    obtain ⟨h2, s1, s2, s3⟩ := fo_follow (rc := rc) r2 F1 (Or.inr (by omega))
    have l2 : ∀ x, x < h.1 → jx_at h2 x = jx_at h x := fun x hx => (s3.2.2 x (fun q => by have := q.1; omega)).trans (r5 x hx)
    have F3 : Fr (fun x => x = 323) h2 (jx_set h2 323 (jxQ 4 4 (va_up Q j (some h.1)))) := Fr.one
    have l3 : ∀ x, x < h.1 → x ≠ 323 → jx_at (jx_set h2 323 (jxQ 4 4 (va_up Q j (some h.1)))) x = jx_at h x := fun x hx h3 => (F3.2.2 x h3).trans (l2 x hx)
    have FR : Fr (fun x => h.1 ≤ x ∨ x = 323) h (h.1, h.2.1, (jx_set h2 323 (jxQ 4 4 (va_up Q j (some h.1)))).2.2) := ⟨rfl, rfl, fun x q => l3 x (by omega) (by omega)⟩
    have G3 : fo_at (jx_set h2 323 (jxQ 4 4 (va_up Q j (some h.1)))) 2 (sF σ) := by
      have := fo_fr FR (fun x a b => by omega) C.F
      exact this
    have GN : fo_at (jx_set h2 323 (jxQ 4 4 (va_up Q j (some h.1)))) h.1 (sF σ) := fo_fr F3 (fun x a b => by omega) s2
    have c1 : h2.1 = h.1 + 3 := s3.1.trans r3
    have c2 : h2.2.1 = h.2.1 + 27 := s3.2.1.trans r4
    refine ⟨jx_set h2 323 (jxQ 4 4 (va_up Q j (some h.1))), fun d => ?_, ?_, by show h.1 ≤ h2.1; omega, by show h2.1 ≤ _; omega, by show h2.2.1 ≤ _; omega, fun x h1 h2 => l3 x (by omega) (by omega)⟩
    · rw [je_28, if_pos C.is, if_neg (jk_nn (by omega)), if_pos (by rw [show (4 : Int32) = Int32.ofNat 4 from rfl, jk_lt (by omega) (by decide)]; exact hj), r1, jk_cV, r5 0 (by omega), C.g1, jk_bs, s1, jk_cV, l2 0 (by omega), C.g11, jk_bs, if_pos (fo_is s2), l2 323 (by omega), q, jk_sQ hj (by decide), jk_bs, fo_size GN A.B.s, jk_cI]
    · refine CS_dyn A.tr.2.1 C (fun x h1 h2 h3 => l3 x (by omega) h2) ⟨va_up Q j (some h.1), R, jk_at_self .., (l3 324 (by omega) (by decide)).trans r, by show 451 ≤ h2.1; omega, fun i hi => ?_, fun i hi => ?_, a3, fun i i' b b' h1 h2 h3 h4 => ?_⟩
      · unfold va_up
        dsimp only
        by_cases z : i = j
        · rw [if_pos z, if_pos z]; exact Or.inr ⟨_, _, rfl, rfl, n, by show _ ≤ h2.1; omega, GN⟩
        · rw [if_neg z, if_neg z]
          rcases a1 i hi with b | ⟨f, b, b1, b2, b3, b4, b5⟩
          · exact Or.inl b
          · refine Or.inr ⟨f, b, b1, b2, b3, by show _ ≤ h2.1; omega, ?_⟩
            have := fo_fr FR (fun x a b => by omega) b5
            exact this
      · rcases a2 i hi with b | ⟨f, b, b1, b2, b3, b4, b5, g, b6, b7⟩
        · exact Or.inl b
        · exact Or.inr ⟨f, b, b1, b2, b3, by show _ ≤ h2.1; omega, (l3 _ (by omega) (by omega)).trans b5, g, (l3 _ (by omega) (by omega)).trans b6, b7⟩
      · unfold va_up at h4
        by_cases z : i' = j
        · rw [if_pos z] at h4
          cases h4
          rcases a2 i h1 with ⟨-, y⟩ | ⟨f, b0, -, y, -, y2, -⟩
          · rw [y] at h3; cases h3
          · rw [y] at h3; cases h3; exact Or.inl y2
        · rw [if_neg z] at h4; exact a4 i i' b b' h1 h2 h3 h4
  · rw [if_neg c0]
    refine ⟨e', fun d => ?_, e2, e3⟩
    unfold jp_four at c0
    rw [je_28, if_pos C.is]
    by_cases c1 : k < 0
    · rw [if_pos c1, e1, jk_cI]
    · rw [if_neg c1] at c0 ⊢
      rw [if_neg (fun z => c0 (if_pos z)), e1, jk_cI]
end
