/-! SHEETS: the class; number(), put(), sheet(), copy() -/
abbrev jSh := Int32 × Nat × (Nat → Int32)
def ea_at (h : jxH) (b : Nat) (e : jSh) : Prop := jx_at h b = jxO 4 [.int e.1, .ref (b + 1)] ∧ ∃ g, jx_at h (b + 1) = jxI 0 e.2.1 g ∧ ∀ k, k < e.2.1 → g k = e.2.2 k
def jq_shas (e : jSh) (i : Int32) : Bool := if i < 0 then false else if Int32.ofNat e.2.1 ≤ i then false else true
def jq_cut (b v : Int32) : Int32 := if b = 8 then v.toInt8.toInt32 else if b = 16 then v.toInt16.toInt32 else v
def jq_wr (e : jSh) (i : Nat) (v : Int32) : jSh := (e.1, e.2.1, upd e.2.2 i (jq_cut e.1 v))
def setE (σ : jSt) (ss : jE) : jSt := (σ.1, σ.2.1, σ.2.2.1, ss, σ.2.2.2.2)
def sE (σ : jSt) : jE := σ.2.2.2.1
def op_number (σ : jSt) (k i : Int32) : Int32 × jSt := if jp_four k = true then (match sE σ (pn k) with
  | some e => if jq_shas e i = true then (e.2.2 (pn i), σ) else er σ 1
  | none => er σ 7) else er σ 1
def op_put (σ : jSt) (k i v : Int32) : Int32 × jSt := if jp_four k = true then (match sE σ (pn k) with
  | some e => if jq_shas e i = true then (1, setE σ (va_up (sE σ) (pn k) (some (jq_wr e (pn i) v)))) else er σ 1
  | none => er σ 7) else er σ 1
def jq_bits (b : Int32) : Bool := if b = 0 then true else if b = 8 then true else if b = 16 then true else if b = 32 then true else false
def op_sheet (σ : jSt) (k b n : Int32) : Int32 × jSt := if jp_four k = true then (if jq_bits b = true then (if b = 0 then (1, setE σ (va_up (sE σ) (pn k) none)) else if n < 0 then er σ 3 else if n ≤ 24 then (1, setE σ (va_up (sE σ) (pn k) (some (b, pn n, fun _ => 0)))) else er σ 1) else er σ 1) else er σ 1
theorem four_no {k : Int32} (h : ¬ jp_four k = true) : k < 0 ∨ (¬ k < 0 ∧ ¬ k < 4 ∧ 4 ≤ k) := by
  unfold jp_four at h
  by_cases c1 : k < 0
  · exact Or.inl c1
  · rw [if_neg c1] at h
    have c2 : ¬ k < 4 := fun z => h (if_pos z)
    refine Or.inr ⟨c1, c2, ?_⟩
    rw [Int32.lt_iff_toInt_lt] at c2
    rw [Int32.le_iff_toInt_le]; omega
theorem four_ok {j : Nat} (h : j < 4) : ¬ Int32.ofNat j < 0 ∧ Int32.ofNat j < 4 ∧ ¬ (4 : Int32) ≤ Int32.ofNat j := by
  refine ⟨jk_nn (by omega), ?_, ?_⟩
  · rw [show (4 : Int32) = Int32.ofNat 4 from rfl, jk_lt (by omega) (by decide)]; exact h
  · rw [show (4 : Int32) = Int32.ofNat 4 from rfl, jk_le (by decide) (by omega)]; omega
theorem jq_shas_iff {e : jSh} (hn : e.2.1 ≤ 24) {i : Int32} : jq_shas e i = true ↔ ∃ k, k < e.2.1 ∧ i = Int32.ofNat k := by
  unfold jq_shas
  constructor
  · intro q
    by_cases c1 : i < 0
    · rw [if_pos c1] at q; cases q
    rw [if_neg c1] at q
    by_cases c2 : Int32.ofNat e.2.1 ≤ i
    · rw [if_pos c2] at q; cases q
    refine ⟨_, ?_, jk_of c1⟩
    rw [jk_of c1, jk_le (by omega) (jk_of_lt i)] at c2
    omega
  · rintro ⟨k, hk, rfl⟩
    rw [if_neg (jk_nn (by omega)), if_neg (by rw [jk_le (by omega) (by omega)]; omega)]
section
variable {rc : Nat → Nat × (Nat → Int32)} {h h' : jxH} {σ : jSt} {P : Nat → Prop} {e : jSh} {b : Nat}
theorem ea_fr (F : Fr P h h') (hP : ∀ x, b ≤ x → x < b + 2 → ¬ P x) (H : ea_at h b e) : ea_at h' b e := by
  obtain ⟨o, g, a1, a2⟩ := H
  exact ⟨(F.2.2 _ (hP _ (by omega) (by omega))).trans o, g, (F.2.2 _ (hP _ (by omega) (by omega))).trans a1, a2⟩
theorem ea_is (H : ea_at h b e) : jx_is (jx_at h b) 4 = true := by rw [H.1]; rfl
theorem ea_g0 (H : ea_at h b e) : jx_gI (jx_at h b) 4 0 = some e.1 := by rw [H.1]; rfl
theorem ea_g1 (H : ea_at h b e) : jx_gR (jx_at h b) 4 1 = some (b + 1) := by rw [H.1]; rfl
theorem ea_len (H : ea_at h b e) : jx_len (jx_at h (b + 1)) = some e.2.1 := by
  obtain ⟨o, g, a1, a2⟩ := H
  rw [a1]; rfl
theorem ea_has (H : ea_at h b e) (i : Int32) (d : Nat) : jx_C rc (d + 1) 272 [.ref b, .int i] h = some (some (.int (jk_b (jq_shas e i))), h) := by
  rw [je_272, if_pos (ea_is H)]
  unfold jq_shas
  by_cases c1 : i < 0
  · rw [if_pos c1, if_pos c1, if_pos jk_r0']; rfl
  rw [if_neg c1, if_neg c1, ea_g1 H, jk_bs, ea_len H, jk_bs]
  by_cases c2 : Int32.ofNat e.2.1 ≤ i
  · rw [if_pos c2, if_pos c2, if_pos jk_r0']; rfl
  · rw [if_neg c2, if_neg c2, if_pos (show jx_bool (1 : Int32) = true by simp [jx_bool])]; rfl
theorem ea_get (H : ea_at h b e) (hn : e.2.1 ≤ 24) {k : Nat} (hk : k < e.2.1) : jx_aI (jx_at h (b + 1)) 0 (Int32.ofNat k) = some (e.2.2 k) := by
  obtain ⟨o, g, a1, a2⟩ := H
  rw [a1, jk_aI hk (by omega), a2 k hk]
theorem ea_read (H : ea_at h b e) (hn : e.2.1 ≤ 24) {k : Nat} (hk : k < e.2.1) (d : Nat) : jx_C rc (d + 2) 274 [.ref b, .int (Int32.ofNat k)] h = some (some (.int (e.2.2 k)), h) := by
  rw [je_274, if_pos (ea_is H), ea_has H, jk_cI, jk_if0, if_pos ((jq_shas_iff hn).mpr ⟨k, hk, rfl⟩), ea_g1 H, jk_bs, ea_get H hn hk, jk_bs]
theorem ea_write (H : ea_at h b e) (hn : e.2.1 ≤ 24) {k : Nat} (hk : k < e.2.1) (v : Int32) : ∃ h', (∀ d, jx_C rc (d + 2) 275 [.ref b, .int (Int32.ofNat k), .int v] h = some (none, h')) ∧ ea_at h' b (jq_wr e k v) ∧ Fr (jI b 2) h h' := by
  obtain ⟨o, g, a1, a2⟩ := id H
  refine ⟨jx_set h (b + 1) (jxI 0 e.2.1 (upd g k (jq_cut e.1 v))), fun d => ?_, ⟨(jk_at_ne _ _ (by omega)).trans o, _, jk_at_self .., upd_lt a2 k _⟩, Fr.set ⟨by omega, by omega⟩⟩
  rw [je_275, if_pos (ea_is H), ea_has H, jk_cI, jk_if0, if_pos ((jq_shas_iff hn).mpr ⟨k, hk, rfl⟩), ea_g1 H, jk_bs, ea_g0 H, jk_bs, a1]
  unfold jq_cut
  by_cases c8 : e.1 = 8
  · rw [if_pos c8, jk_sI hk (by omega), jk_bs, if_pos c8]
  rw [if_neg c8, jk_bs, if_neg c8]
  by_cases c16 : e.1 = 16
  · rw [if_pos c16, jk_sI hk (by omega), jk_bs, if_pos c16]
  · rw [if_neg c16, jk_sI hk (by omega), jk_bs, if_neg c16]
/-- the sheet k, and what comes of writing on it -/
theorem ed_get {sh : jH} {ss : jE} (D : c_dyn h sh ss) {k : Nat} (hk : k < 4) : (ss k = none ∧ jx_aQ (jx_at h 324) 5 (Int32.ofNat k) = some none) ∨ ∃ e b, ss k = some e ∧ jx_aQ (jx_at h 324) 5 (Int32.ofNat k) = some (some b) ∧ 451 ≤ b ∧ ea_at h b e ∧ ∀ h' e', Fr (jI b 2) h h' → ea_at h' b e' → c_dyn h' sh (va_up ss k (some e')) := by
  obtain ⟨Q, R, q, r, n, a1, a2, a3, a4⟩ := D
  have rk : jx_aQ (jx_at h 324) 5 (Int32.ofNat k) = some (R k) := by rw [r, jk_aQ hk (by decide)]
  rcases a2 k hk with ⟨b1, b2⟩ | ⟨e, b, b1, b2, b3, b4, b5, g, b6, b7⟩
  · exact Or.inl ⟨b1, by rw [rk, b2]⟩
  · refine Or.inr ⟨e, b, b1, by rw [rk, b2], b3, ⟨b5, g, b6, b7⟩, fun h' e' F G => ⟨Q, R, (F.2.2 _ (fun z => by have := z.1; omega)).trans q, (F.2.2 _ (fun z => by have := z.1; omega)).trans r, by rw [F.1]; exact n, fun i hi => ?_, fun i hi => ?_, a3, a4⟩⟩
    · rcases a1 i hi with c | ⟨f, b', c1, c2, c3, c4, c5⟩
      · exact Or.inl c
      · have := a4 k i b b' hk hi b2 c2
        exact Or.inr ⟨f, b', c1, c2, c3, by rw [F.1]; exact c4, fo_fr F (fun x h1 h2 z => by have := z.1; have := z.2; omega) c5⟩
    · unfold va_up
      by_cases z : i = k
      · subst z
        rw [if_pos rfl]
        obtain ⟨o, g', c1, c2⟩ := G
        exact Or.inr ⟨e', b, rfl, b2, b3, by rw [F.1]; exact b4, o, g', c1, c2⟩
      · rw [if_neg z]
        rcases a2 i hi with c | ⟨f, b', c1, c2, c3, c4, c5, g', c6, c7⟩
        · exact Or.inl c
        · have := a3 k i b b' hk hi (fun w => z w.symm) b2 c2
          exact Or.inr ⟨f, b', c1, c2, c3, by rw [F.1]; exact c4, (F.2.2 _ (fun z => by have := z.1; have := z.2; omega)).trans c5, g', (F.2.2 _ (fun z => by have := z.1; have := z.2; omega)).trans c6, c7⟩
theorem cc_dyn {ss' : jE} (C : CSt h σ) (A : AWt σ) {b : Nat} (hb : 451 ≤ b) (F : Fr (jI b 2) h h') (S : c_dyn h' σ.2.2.1 ss') : CSt h' (setE σ ss') ∧ cF h h' := by
  have k : ∀ x, x < 451 → jx_at h' x = jx_at h x := fun x hx => F.2.2 x (fun z => by have := z.1; omega)
  refine ⟨CS_dyn A.tr.2.1 C (fun x h1 _ _ => k x h1) S, by rw [F.1]; omega, by rw [F.1]; omega, by rw [F.2.1]; omega, fun x _ h2 => k x h2⟩
theorem AWt.ss (A : AWt σ) : ss_W (sE σ) := A.2.2.1
theorem aa_ss (A : AWt σ) {ss' : jE} (W : ss_W ss') : AWt (setE σ ss') := ⟨A.1, A.2.1, W, A.2.2.2⟩
theorem ss_up {ss : jE} (W : ss_W ss) (k : Nat) {e : jSh} (h1 : e.1 = 8 ∨ e.1 = 16 ∨ e.1 = 32) (h2 : e.2.1 ≤ 24) : ss_W (va_up ss k (some e)) := fun i e' hi q => by
  unfold va_up at q
  split at q
  · cases q; exact ⟨h1, h2⟩
  · exact W i e' hi q
theorem cc_number (C : CSt h σ) (A : AWt σ) (k i : Int32) : ∃ h', (∀ d, jx_C rc (d + 20) 44 [.ref 0, .int k, .int i] h = some (some (.int (op_number σ k i).1), h')) ∧ CSt h' (op_number σ k i).2 ∧ cF h h' := by
  unfold op_number
  obtain ⟨e', e1, e2, e3⟩ := cc_refuse (rc := rc) C A (k := 1) (by decide) (by decide) (K := 1) rfl
  by_cases c0 : jp_four k = true
  · rw [if_pos c0]
    obtain ⟨j, hj, rfl⟩ := jp_four_iff.mp c0
    rw [pn_4 hj]
    obtain ⟨n1, n2, n3⟩ := four_ok hj
    have st : ∀ d, jx_C rc (d + 20) 44 [.ref 0, .int (Int32.ofNat j), .int i] h = _ := fun d => by
      rw [je_44, if_pos C.is, if_neg n1, if_pos n2, C.g12, jk_bs]
    rcases ed_get C.dyn hj with ⟨b1, b2⟩ | ⟨e, b, b1, b2, b3, b4, -⟩
    · obtain ⟨f', f1, f2, f3⟩ := cc_refuse (rc := rc) C A (k := 7) (by decide) (by decide) (K := 7) rfl
      rw [show sE σ j = none from b1]
      refine ⟨f', fun d => ?_, f2, f3⟩
      rw [st d, b2, jk_bs, jk_mon, f1, jk_cI]
    · rw [show sE σ j = some e from b1]
      have hn := (A.ss j e hj b1).2
      dsimp only
      by_cases c1 : jq_shas e i = true
      · rw [if_pos c1]
        obtain ⟨m, hm, rfl⟩ := (jq_shas_iff hn).mp c1
        rw [show pn (Int32.ofNat m) = m from jk_cl (by omega)]
        refine ⟨h, fun d => ?_, C, cFid⟩
        rw [st d, b2, jk_bs, jk_mos, ea_has b4, jk_cI, jk_if0, if_pos c1, ea_read b4 hn hm, jk_cI]
      · rw [if_neg c1]
        refine ⟨e', fun d => ?_, e2, e3⟩
        rw [st d, b2, jk_bs, jk_mos, ea_has b4, jk_cI, jk_if0, if_neg c1, e1, jk_cI]
  · rw [if_neg c0]
    refine ⟨e', fun d => ?_, e2, e3⟩
    rw [je_44, if_pos C.is]
    rcases four_no c0 with z | ⟨z1, z2, z3⟩
    · rw [if_pos z, e1, jk_cI]
    · rw [if_neg z1, if_neg z2, e1, jk_cI]
theorem cc_put (C : CSt h σ) (A : AWt σ) (k i v : Int32) : ∃ h', (∀ d, jx_C rc (d + 20) 43 [.ref 0, .int k, .int i, .int v] h = some (some (.int (op_put σ k i v).1), h')) ∧ CSt h' (op_put σ k i v).2 ∧ cF h h' := by
  unfold op_put
  obtain ⟨e', e1, e2, e3⟩ := cc_refuse (rc := rc) C A (k := 1) (by decide) (by decide) (K := 1) rfl
  by_cases c0 : jp_four k = true
  · rw [if_pos c0]
    obtain ⟨j, hj, rfl⟩ := jp_four_iff.mp c0
    rw [pn_4 hj]
    obtain ⟨n1, n2, n3⟩ := four_ok hj
    have st : ∀ d, jx_C rc (d + 20) 43 [.ref 0, .int (Int32.ofNat j), .int i, .int v] h = _ := fun d => by
      rw [je_43, if_pos C.is, if_neg n1, if_pos n2, C.g12, jk_bs]
    rcases ed_get C.dyn hj with ⟨b1, b2⟩ | ⟨e, b, b1, b2, b3, b4, b5⟩
    · obtain ⟨f', f1, f2, f3⟩ := cc_refuse (rc := rc) C A (k := 7) (by decide) (by decide) (K := 7) rfl
      rw [show sE σ j = none from b1]
      refine ⟨f', fun d => ?_, f2, f3⟩
      rw [st d, b2, jk_bs, jk_mon, f1, jk_cI]
    · rw [show sE σ j = some e from b1]
      have hn := (A.ss j e hj b1).2
      dsimp only
      by_cases c1 : jq_shas e i = true
      · rw [if_pos c1]
        obtain ⟨m, hm, rfl⟩ := (jq_shas_iff hn).mp c1
        rw [show pn (Int32.ofNat m) = m from jk_cl (by omega)]
        obtain ⟨h1, r1, r2, r3⟩ := ea_write (rc := rc) b4 hn hm v
        obtain ⟨C1, F1⟩ := cc_dyn C A b3 r3 (b5 h1 _ r3 r2)
        refine ⟨h1, fun d => ?_, C1, F1⟩
        rw [st d, b2, jk_bs, jk_mos, ea_has b4, jk_cI, jk_if0, if_pos c1, r1, jk_cV]
      · rw [if_neg c1]
        refine ⟨e', fun d => ?_, e2, e3⟩
        rw [st d, b2, jk_bs, jk_mos, ea_has b4, jk_cI, jk_if0, if_neg c1, e1, jk_cI]
  · rw [if_neg c0]
    refine ⟨e', fun d => ?_, e2, e3⟩
    rw [je_43, if_pos C.is]
    rcases four_no c0 with z | ⟨z1, z2, z3⟩
    · rw [if_pos z, e1, jk_cI]
    · rw [if_neg z1, if_neg z2, e1, jk_cI]
theorem aa_number (A : AWt σ) (k i : Int32) : AWt (op_number σ k i).2 := by
  unfold op_number
  repeat' split
  all_goals first | exact A | exact aa_er A
theorem aa_put (A : AWt σ) (k i v : Int32) : AWt (op_put σ k i v).2 := by
  unfold op_put
  split
  · rename_i c0
    obtain ⟨j, hj, rfl⟩ := jp_four_iff.mp c0
    rw [pn_4 hj]
    split
    · rename_i e q
      split
      · exact aa_ss A (ss_up A.ss _ (A.ss j e hj q).1 (A.ss j e hj q).2)
      · exact aa_er A
    · exact aa_er A
  · exact aa_er A
/-- a new sheet -/
theorem ea_new (h : jxH) (bits : Int32) {n : Nat} (hn : n ≤ 24) : ∃ h', (∀ d, jx_C rc (d + 2) 271 [.ref h.1, .int bits, .int (Int32.ofNat n)] (jx_new h 2 (.inl (4, jx_dflt 4))) = some (none, h')) ∧ ea_at h' h.1 (bits, n, fun _ => 0) ∧ h'.1 = h.1 + 2 ∧ h'.2.1 = h.2.1 + 2 + n ∧ ∀ x, x < h.1 → jx_at h' x = jx_at h x := by
  have nn : ¬ (Int32.ofNat n < 0 ∨ 5000 < Int32.ofNat n) := fun z => by
    rcases z with z | z
    · exact jk_nn (by omega) z
    · rw [show (5000 : Int32) = Int32.ofNat 5000 from rfl, jk_lt (by decide) (by omega)] at z; omega
  refine ⟨jx_set (jx_new (jx_set (jx_new h 2 (.inl (4, jx_dflt 4))) h.1 (jxO 4 [.int bits, .null])) n (jx_arr 0 n)) h.1 (jxO 4 [.int bits, .ref (h.1 + 1)]), fun d => ?_, ?_⟩
  · rw [je_271, if_pos (by rw [jk_at_new, if_pos rfl]; rfl), show jx_at (jx_new h 2 (.inl (4, jx_dflt 4))) h.1 = jxO 4 [.int 0, .null] by rw [jk_new_self _ _ rfl]; rfl, show jx_pF (jxO 4 [.int 0, .null]) 4 0 (.int bits) = some (jxO 4 [.int bits, .null]) from rfl, jk_bs, je_331, if_neg (by rw [show (24 : Int32) = Int32.ofNat 24 from rfl, jk_lt (by decide) (by omega)]; omega), jk_cI, je_330]
    have m0 : ∀ g, jx_cI (if (0 : Int32) < Int32.ofNat n then some (some (.int (Int32.ofNat n)), g) else some (some (.int 0), g)) = jx_cI (some (some (.int (Int32.ofNat n)), g)) := fun g => by
      by_cases z : n = 0
      · subst z; rfl
      · rw [if_pos (by rw [show (0 : Int32) = Int32.ofNat 0 from rfl, jk_lt (by decide) (by omega)]; omega)]
    rw [m0, jk_cI, if_neg nn, jk_cl (by omega), show jx_at (jx_new (jx_set (jx_new h 2 (.inl (4, jx_dflt 4))) h.1 (jxO 4 [.int bits, .null])) n (jx_arr 0 n)) h.1 = jxO 4 [.int bits, .null] by rw [jk_new_ne _ _ (show h.1 ≠ h.1 + 1 by omega), jk_at_self]]
    rfl
  · refine ⟨⟨jk_at_self .., fun _ => 0, ?_, fun _ _ => rfl⟩, rfl, rfl, fun x hx => ?_⟩
    · rw [jk_at_ne _ _ (by omega), jk_new_self _ _ (show h.1 + 1 = h.1 + 1 from rfl)]; rfl
    · rw [jk_at_ne _ _ (by omega), jk_new_ne _ _ (show x ≠ h.1 + 1 by omega), jk_at_ne _ _ (by omega), jk_new_ne _ _ (by omega)]
theorem jq_bits_iff {b : Int32} : jq_bits b = true ↔ b = 0 ∨ b = 8 ∨ b = 16 ∨ b = 32 := by
  unfold jq_bits
  by_cases c0 : b = 0
  · simp [c0]
  by_cases c1 : b = 8
  · simp [c1]
  by_cases c2 : b = 16
  · simp [c2]
  simp [c0, c1, c2]
theorem cc_sheet (C : CSt h σ) (A : AWt σ) (k b n : Int32) : ∃ h', (∀ d, jx_C rc (d + 20) 42 [.ref 0, .int k, .int b, .int n] h = some (some (.int (op_sheet σ k b n).1), h')) ∧ CSt h' (op_sheet σ k b n).2 ∧ cF h h' := by
  unfold op_sheet
  obtain ⟨e', e1, e2, e3⟩ := cc_refuse (rc := rc) C A (k := 1) (by decide) (by decide) (K := 1) rfl
  by_cases c0 : jp_four k = true
  · rw [if_pos c0]
    obtain ⟨j, hj, rfl⟩ := jp_four_iff.mp c0
    rw [pn_4 hj]
    obtain ⟨n1, n2, n3⟩ := four_ok hj
    by_cases cb : jq_bits b = true
    · rw [if_pos cb]
      have st : ∀ d, jx_C rc (d + 20) 42 [.ref 0, .int (Int32.ofNat j), .int b, .int n] h = jb_42 rc (d + 19) 20 [(0, .ref 0), (1, .int (Int32.ofNat j)), (2, .int b), (3, .int n)] [] h := fun d => by
        rw [je_42, if_pos C.is, if_neg n1, if_neg n3]
        rcases jq_bits_iff.mp cb with z | z | z | z
        · rw [if_pos z]
        · rw [if_neg (by rw [z]; decide), if_pos z]
        · rw [if_neg (by rw [z]; decide), if_neg (by rw [z]; decide), if_pos z]
        · rw [if_neg (by rw [z]; decide), if_neg (by rw [z]; decide), if_neg (by rw [z]; decide), if_pos z]
      obtain ⟨Q, R, q, r, N, a1, a2, a3, a4⟩ := C.dyn
      by_cases b0 : b = 0
      · rw [if_pos b0]
        have F : Fr (fun x => x = 324) h (jx_set h 324 (jxQ 5 4 (va_up R j none))) := Fr.one
        refine ⟨jx_set h 324 (jxQ 5 4 (va_up R j none)), fun d => ?_, ?_, cF.of F (fun x q => by omega)⟩
        · rw [st d, je_42_20, if_pos b0, C.g12, jk_bs, r, jk_sQ hj (by decide), jk_bs]
        · refine CS_dyn A.tr.2.1 C (fun x h1 h2 h3 => F.2.2 x h3) ⟨Q, va_up R j none, (F.2.2 323 (by decide)).trans q, jk_at_self .., N, fun i hi => ?_, fun i hi => ?_, fun i i' x y h1 h2 h3 h4 h5 => ?_, fun i i' x y h1 h2 h3 h4 => ?_⟩
          · rcases a1 i hi with c | ⟨f, b, b1, b2, b3, b4, b5⟩
            · exact Or.inl c
            · exact Or.inr ⟨f, b, b1, b2, b3, b4, fo_fr F (fun x _ _ => by omega) b5⟩
          · unfold setE va_up
            dsimp only
            by_cases z : i = j
            · rw [if_pos z, if_pos z]; exact Or.inl ⟨rfl, rfl⟩
            · rw [if_neg z, if_neg z]
              rcases a2 i hi with c | ⟨f, b, b1, b2, b3, b4, b5, g, b6, b7⟩
              · exact Or.inl c
              · exact Or.inr ⟨f, b, b1, b2, b3, b4, (F.2.2 _ (by omega)).trans b5, g, (F.2.2 _ (by omega)).trans b6, b7⟩
          · unfold va_up at h4 h5
            by_cases z : i = j
            · rw [if_pos z] at h4; cases h4
            · by_cases z' : i' = j
              · rw [if_pos z'] at h5; cases h5
              · rw [if_neg z] at h4; rw [if_neg z'] at h5; exact a3 i i' x y h1 h2 h3 h4 h5
          · unfold va_up at h3
            by_cases z : i = j
            · rw [if_pos z] at h3; cases h3
            · rw [if_neg z] at h3; exact a4 i i' x y h1 h2 h3 h4
      rw [if_neg b0]
      by_cases cn : n < 0
      · rw [if_pos cn]
        obtain ⟨f', f1, f2, f3⟩ := cc_refuse (rc := rc) C A (k := 3) (by decide) (by decide) (K := 3) rfl
        refine ⟨f', fun d => ?_, f2, f3⟩
        rw [st d, je_42_20, if_neg b0, if_neg (fun z => by rw [Int32.lt_iff_toInt_lt] at cn; rw [Int32.le_iff_toInt_le] at z; omega), f1, jk_cI]
      rw [if_neg cn]
      have cn' : 0 ≤ n := by rw [Int32.lt_iff_toInt_lt] at cn; rw [Int32.le_iff_toInt_le]; omega
      by_cases c24 : n ≤ 24
      · rw [if_pos c24]
        obtain ⟨m, hm, rfl⟩ : ∃ m, m ≤ 24 ∧ n = Int32.ofNat m := by
          refine ⟨n.toNatClampNeg, ?_, jk_of cn⟩
          rw [jk_of cn, show (24 : Int32) = Int32.ofNat 24 from rfl, jk_le (jk_of_lt n) (by decide)] at c24
          exact c24
        rw [show pn (Int32.ofNat m) = m from jk_cl (by omega)]
        obtain ⟨h1, r1, r2, r3, r4, r5⟩ := ea_new (rc := rc) h b hm
        have F3 : Fr (fun x => x = 324) h1 (jx_set h1 324 (jxQ 5 4 (va_up R j (some h.1)))) := Fr.one
        have l3 : ∀ x, x < h.1 → x ≠ 324 → jx_at (jx_set h1 324 (jxQ 5 4 (va_up R j (some h.1)))) x = jx_at h x := fun x hx h3 => (F3.2.2 x h3).trans (r5 x hx)
        have FR : Fr (fun x => h.1 ≤ x ∨ x = 324) h (h.1, h.2.1, (jx_set h1 324 (jxQ 5 4 (va_up R j (some h.1)))).2.2) := ⟨rfl, rfl, fun x q => l3 x (by omega) (by omega)⟩
        have GN : ea_at (jx_set h1 324 (jxQ 5 4 (va_up R j (some h.1)))) h.1 (b, m, fun _ => 0) := ea_fr F3 (fun x a b => by omega) r2
        refine ⟨jx_set h1 324 (jxQ 5 4 (va_up R j (some h.1))), fun d => ?_, ?_, by show h.1 ≤ h1.1; omega, by show h1.1 ≤ _; omega, by show h1.2.1 ≤ _; omega, fun x h1 h2 => l3 x (by omega) (by omega)⟩
        · rw [st d, je_42_20, if_neg b0, if_pos cn', if_pos c24, C.g12, jk_bs, r1, jk_cV, if_pos (ea_is r2), r5 324 (by omega), r, jk_sQ hj (by decide), jk_bs]
        · refine CS_dyn A.tr.2.1 C (fun x h1 h2 h3 => l3 x (by omega) h3) ⟨Q, va_up R j (some h.1), (l3 323 (by omega) (by decide)).trans q, jk_at_self .., by show 451 ≤ h1.1; omega, fun i hi => ?_, fun i hi => ?_, fun i i' x y g1 g2 g3 g4 g5 => ?_, fun i i' x y g1 g2 g3 g4 => ?_⟩
          · rcases a1 i hi with c | ⟨f, b, b1, b2, b3, b4, b5⟩
            · exact Or.inl c
            · refine Or.inr ⟨f, b, b1, b2, b3, by show _ ≤ h1.1; omega, ?_⟩
              have := fo_fr FR (fun x a b => by omega) b5
              exact this
          · unfold setE va_up
            dsimp only
            by_cases z : i = j
            · rw [if_pos z, if_pos z]; exact Or.inr ⟨_, _, rfl, rfl, N, by show _ ≤ h1.1; omega, GN.1, GN.2⟩
            · rw [if_neg z, if_neg z]
              rcases a2 i hi with c | ⟨f, b, b1, b2, b3, b4, b5, g, b6, b7⟩
              · exact Or.inl c
              · exact Or.inr ⟨f, b, b1, b2, b3, by show _ ≤ h1.1; omega, (l3 _ (by omega) (by omega)).trans b5, g, (l3 _ (by omega) (by omega)).trans b6, b7⟩
          · have bd : ∀ i x, i < 4 → R i = some x → x + 2 ≤ h.1 := fun i x hi e => by
              rcases a2 i hi with ⟨-, y⟩ | ⟨f, b0, -, y, -, y2, -⟩
              · rw [y] at e; cases e
              · rw [y] at e; cases e; exact y2
            unfold va_up at g4 g5
            by_cases z : i = j
            · rw [if_pos z] at g4
              rw [if_neg (fun w => g3 (z.trans w.symm))] at g5
              cases g4
              exact Or.inr (bd i' y g2 g5)
            · rw [if_neg z] at g4
              by_cases z' : i' = j
              · rw [if_pos z'] at g5
                cases g5
                exact Or.inl (bd i x g1 g4)
              · rw [if_neg z'] at g5
                exact a3 i i' x y g1 g2 g3 g4 g5
          · unfold va_up at g3
            by_cases z : i = j
            · rw [if_pos z] at g3
              cases g3
              rcases a1 i' g2 with ⟨-, y⟩ | ⟨f, b0, -, y, -, y2, -⟩
              · rw [y] at g4; cases g4
              · rw [y] at g4; cases g4; exact Or.inr y2
            · rw [if_neg z] at g3; exact a4 i i' x y g1 g2 g3 g4
      · rw [if_neg c24]
        refine ⟨e', fun d => ?_, e2, e3⟩
        rw [st d, je_42_20, if_neg b0, if_pos cn', if_neg c24, e1, jk_cI]
    · rw [if_neg cb]
      refine ⟨e', fun d => ?_, e2, e3⟩
      have cb' := fun z => cb (jq_bits_iff.mpr z)
      rw [je_42, if_pos C.is, if_neg n1, if_neg n3, if_neg (fun z => cb' (Or.inl z)), if_neg (fun z => cb' (Or.inr (Or.inl z))), if_neg (fun z => cb' (Or.inr (Or.inr (Or.inl z)))), if_neg (fun z => cb' (Or.inr (Or.inr (Or.inr z)))), e1, jk_cI]
  · rw [if_neg c0]
    refine ⟨e', fun d => ?_, e2, e3⟩
    rw [je_42, if_pos C.is]
    rcases four_no c0 with z | ⟨z1, z2, z3⟩
    · rw [if_pos z, e1, jk_cI]
    · rw [if_neg z1, if_pos z3, e1, jk_cI]
theorem aa_sheet (A : AWt σ) (k b n : Int32) : AWt (op_sheet σ k b n).2 := by
  unfold op_sheet
  split
  · split
    · rename_i cb
      split
      · refine aa_ss A fun i e hi q => ?_
        unfold va_up at q
        split at q
        · cases q
        · exact A.ss i e hi q
      · rename_i b0
        split
        · exact aa_er A
        · rename_i cn
          split
          · rename_i c24
            refine aa_ss A (ss_up A.ss _ ?_ ?_)
            · rcases jq_bits_iff.mp cb with z | z | z | z
              · exact absurd z b0
              · exact Or.inl z
              · exact Or.inr (Or.inl z)
              · exact Or.inr (Or.inr z)
            · rw [jk_of cn, show (24 : Int32) = Int32.ofNat 24 from rfl, jk_le (jk_of_lt n) (by decide)] at c24
              exact c24
          · exact aa_er A
    · exact aa_er A
  · exact aa_er A
end
