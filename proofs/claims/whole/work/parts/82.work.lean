/-! work(): the class -/
def jw_push (σ : jSt) (k : Int32) (j : Nat) : jSt := (σ.1, tr_push σ.2.1 (k, Int32.ofNat j, 0, 0, 0), σ.2.2)
/-- how far a worker of a kind comes in m moves -/
def jw_go : Nat → jSt → Int32 → Nat → Nat × jSt
  | 0, σ, _, _ => (0, σ)
  | m + 1, σ, kind, s => match jn_plan (sF σ) kind s with
    | some (k, j) => ((jw_go m (jw_push σ k j) kind s).1 + 1, (jw_go m (jw_push σ k j) kind s).2)
    | none => (0, σ)
theorem jw_go_le : ∀ (m : Nat) (σ : jSt) (kind : Int32) (s : Nat), (jw_go m σ kind s).1 ≤ m
  | 0, _, _, _ => Nat.le_refl _
  | m + 1, σ, kind, s => by
    unfold jw_go
    split
    · exact Nat.succ_le_succ (jw_go_le m _ kind s)
    · exact Nat.zero_le _
theorem jw_go_C : ∀ (m : Nat) (σ : jSt) (kind : Int32) (s : Nat), sC (jw_go m σ kind s).2 = sC σ
  | 0, _, _, _ => rfl
  | m + 1, σ, kind, s => by
    unfold jw_go
    split
    · exact jw_go_C m _ kind s
    · rfl
theorem aa_wpush {σ : jSt} (A : AWt σ) {kind : Int32} {s : Nat} {k : Int32} {j : Nat} (e : jn_plan (sF σ) kind s = some (k, j)) (h40 : σ.2.1.1 < 40) : AWt (jw_push σ k j) := by
  obtain ⟨h1, h2, h3⟩ := jn_W_plan (sF σ) kind s k j e
  exact ⟨aa_push A.tr (jm_norm_3 h1 _) h3 h40, A.2⟩
theorem aa_go {kind : Int32} {s : Nat} : ∀ (m : Nat) (σ : jSt), AWt σ → σ.2.1.1 + m ≤ 40 → AWt (jw_go m σ kind s).2
  | 0, _, A, _ => A
  | m + 1, σ, A, h => by
    unfold jw_go
    split
    · rename_i k j e
      exact aa_go m _ (aa_wpush A e (by omega)) (by show σ.2.1.1 + 1 + m ≤ 40; omega)
    · exact A
def op_work (σ : jSt) (i n : Int32) : Int32 × jSt := if jp_crew (sC σ) i = true then (if n < 1 then er σ 1 else if n ≤ 12 then (if σ.2.1.1 + pn n ≤ 40 then (Int32.ofNat (jw_go (pn n) σ ((sC σ).2.1 (pn i)) ((sC σ).2.2.1 (pn i))).1, setC (jw_go (pn n) σ ((sC σ).2.1 (pn i)) ((sC σ).2.2.1 (pn i))).2 (jc_credit (sC σ) (pn i) (jw_go (pn n) σ ((sC σ).2.1 (pn i)) ((sC σ).2.2.1 (pn i))).1)) else er σ 4) else er σ 1) else er σ 1
section
variable {rc : Nat → Nat × (Nat → Int32)} {h h' : jxH} {σ : jSt} {P : Nat → Prop} {a : Nat} {c : jC}
theorem cr_credit (H : cr_at h a c) (W : cr_W c) {i : Nat} (hi : i < c.1) {n : Nat} (hn : n ≤ 12) : ∃ h', (∀ d, jx_C rc (d + 2) 215 [.ref a, .int (Int32.ofNat i), .int (Int32.ofNat n)] h = some (none, h')) ∧ cr_at h' a (jc_credit c i n) ∧ Fr (jI a 4) h h' := by
  obtain ⟨o, ⟨g0, e0, q0⟩, ⟨g1, e1, q1⟩, g2, e2, q2⟩ := id H
  have h6 := W.1
  have l := (W.2 i hi).2.2
  have F1 : Fr (fun x => x = a + 3) h (jx_set h (a + 3) (jxI 0 6 (upd g2 i (Int32.ofNat (min 9999 (c.2.2.2 i + n)))))) := Fr.one
  have mn : (if Int32.ofNat (c.2.2.2 i + n) < 9999 then (some (some (Value.int (Int32.ofNat (c.2.2.2 i + n))), h) : jxR) else some (some (.int 9999), h)) = some (some (.int (Int32.ofNat (min 9999 (c.2.2.2 i + n)))), h) := by
    by_cases z : c.2.2.2 i + n < 9999
    · rw [if_pos (by rw [show (9999 : Int32) = Int32.ofNat 9999 from rfl, jk_lt (by omega) (by decide)]; exact z), Nat.min_eq_right (by omega)]
    · rw [if_neg (by rw [show (9999 : Int32) = Int32.ofNat 9999 from rfl, jk_lt (by omega) (by decide)]; exact z), Nat.min_eq_left (by omega)]; rfl
  refine ⟨_, fun d => ?_, ⟨(F1.2.2 _ (by omega)).trans o, ⟨g0, (F1.2.2 _ (by omega)).trans e0, q0⟩, ⟨g1, (F1.2.2 _ (by omega)).trans e1, q1⟩, _, jk_at_self .., fun j hj => ?_⟩, F1.mono fun x q => ⟨by omega, by omega⟩⟩
  · rw [je_215, if_pos (cr_is H), cr_has H h6, jk_cI, jk_if0, if_pos ((jp_crew_iff h6).mpr ⟨i, hi, rfl⟩), cr_g2 H, jk_bs, jk_bs, e2, jk_aI (by omega) (by decide), jk_bs, q2 i hi, ← Int32.ofNat_add, je_331, mn, jk_cI, e2, jk_sI (by omega) (by decide), jk_bs]
  · have hj : j < c.1 := hj
    show upd g2 i (Int32.ofNat (min 9999 (c.2.2.2 i + n))) j = Int32.ofNat (va_up c.2.2.2 i (min 9999 (c.2.2.2 i + n)) j)
    unfold upd va_up
    by_cases z : j = i
    · rw [if_pos z, if_pos z]
    · rw [if_neg z, if_neg z]; exact q2 j hj
theorem jc_credit_W (W : cr_W c) (i n : Nat) : cr_W (jc_credit c i n) := by
  refine ⟨W.1, fun j hj => ?_⟩
  show _ ∧ _ ∧ va_up c.2.2.2 i (min 9999 (c.2.2.2 i + n)) j ≤ 9999
  obtain ⟨w1, w2, w3⟩ := W.2 j hj
  refine ⟨w1, w2, ?_⟩
  unfold va_up
  split
  · exact Nat.min_le_left _ _
  · exact w3
theorem cc_go (hr : jk_rom rc) {i n : Nat} (hn : n ≤ 12) : ∀ (m k : Nat) (h : jxH) (σ : jSt), k + m = n → i < (sC σ).1 → CSt h σ → AWt σ → σ.2.1.1 + m ≤ 40 → ∃ h', (∀ d, jb_37 rc (d + 7) 38 [(0, .ref 0), (1, .int (Int32.ofNat i)), (2, .int (Int32.ofNat n)), (3, .int ((sC σ).2.1 i)), (4, .int (Int32.ofNat ((sC σ).2.2.1 i))), (5, .int (Int32.ofNat k))] [] h = some (some (.int (Int32.ofNat (k + (jw_go m σ ((sC σ).2.1 i) ((sC σ).2.2.1 i)).1))), h')) ∧ CSt h' (setC (jw_go m σ ((sC σ).2.1 i) ((sC σ).2.2.1 i)).2 (jc_credit (sC σ) i (k + (jw_go m σ ((sC σ).2.1 i) ((sC σ).2.2.1 i)).1))) ∧ cF h h' ∧ h'.1 = h.1 ∧ h'.2.1 = h.2.1
  | 0, k, h, σ, e, hi, C, A, _ => by
    obtain ⟨h1, r1, r2, r3⟩ := cr_credit (rc := rc) C.crew A.crew hi (n := k) (by omega)
    obtain ⟨C1, F1⟩ := cc_crew C A r3 r2
    refine ⟨h1, fun d => ?_, C1, F1, r3.1, r3.2.1⟩
    rw [je_37_38, if_pos ((jk_le (by omega) (by omega)).mpr (by omega)), C.g13, jk_bs, r1, jk_cV]
    rfl
  | m + 1, k, h, σ, e, hi, C, A, h40 => by
    obtain ⟨h1, r1, C1, F1, F2, F3, r5⟩ := cc_plan (rc := rc) hr C A ((sC σ).2.1 i) (A.crew.2 i hi).2.1
    have st : ∀ d, jb_37 rc (d + 7) 38 [(0, .ref 0), (1, .int (Int32.ofNat i)), (2, .int (Int32.ofNat n)), (3, .int ((sC σ).2.1 i)), (4, .int (Int32.ofNat ((sC σ).2.2.1 i))), (5, .int (Int32.ofNat k))] [] h = _ := fun d => by
      rw [je_37_38, if_neg (by rw [jk_le (by omega) (by omega)]; omega), C.g3, jk_bs, C.g1, jk_bs, r1, jk_cI, jk_if0]
    cases hp : jn_plan (sF σ) ((sC σ).2.1 i) ((sC σ).2.2.1 i) with
    | none =>
      have e0 : jw_go (m + 1) σ ((sC σ).2.1 i) ((sC σ).2.2.1 i) = (0, σ) := by unfold jw_go; rw [hp]
      rw [e0]
      obtain ⟨h2, s1, s2, s3⟩ := cr_credit (rc := rc) C1.crew A.crew hi (n := k) (by omega)
      obtain ⟨C2, G2⟩ := cc_crew C1 A s3 s2
      refine ⟨h2, fun d => ?_, C2, F1.trans0 ⟨F2, F3⟩ G2, s3.1.trans F2, s3.2.1.trans F3⟩
      rw [st d, hp, if_neg (by decide), C1.g13, jk_bs, s1, jk_cV]
      rfl
    | some x =>
      obtain ⟨kk, j⟩ := x
      obtain ⟨w1, w2, w3⟩ := jn_W_plan (sF σ) _ _ kk j hp
      obtain ⟨sg, t1⟩ := r5 kk j hp
      obtain ⟨h2, s1, s2, s3, s4, s5, s6⟩ := cc_perform hr C1 A t1 (jm_norm_3 w1 _) w3 (by omega)
      have e1 : jw_go (m + 1) σ ((sC σ).2.1 i) ((sC σ).2.2.1 i) = ((jw_go m (jw_push σ kk j) ((sC σ).2.1 i) ((sC σ).2.2.1 i)).1 + 1, (jw_go m (jw_push σ kk j) ((sC σ).2.1 i) ((sC σ).2.2.1 i)).2) := by
        conv => lhs; unfold jw_go
        rw [hp]
      rw [e1]
      obtain ⟨h3, u1, u2, u3, u4, u5⟩ := cc_go hr hn m (k + 1) h2 (jw_push σ kk j) (by omega) hi s2 (aa_wpush A hp (by omega)) (by show σ.2.1.1 + 1 + m ≤ 40; omega)
      rw [show k + ((jw_go m (jw_push σ kk j) ((sC σ).2.1 i) ((sC σ).2.2.1 i)).1 + 1) = k + 1 + (jw_go m (jw_push σ kk j) ((sC σ).2.1 i) ((sC σ).2.2.1 i)).1 by omega]
      refine ⟨h3, fun d => ?_, u2, F1.trans0 ⟨F2, F3⟩ (s3.trans0 ⟨s5, s6⟩ u3), u4.trans (s5.trans F2), u5.trans (s6.trans F3)⟩
      rw [st d, hp, if_pos (show (some (kk, j)).isSome = true from rfl), C1.g4, jk_bs, C1.g3, jk_bs, C1.g1, jk_bs, s1, jk_cV, jk_succ]
      exact u1 d
theorem cc_work (hr : jk_rom rc) (C : CSt h σ) (A : AWt σ) (i n : Int32) : ∃ h', (∀ d, jx_C rc (d + 20) 37 [.ref 0, .int i, .int n] h = some (some (.int (op_work σ i n).1), h')) ∧ CSt h' (op_work σ i n).2 ∧ cF h h' := by
  unfold op_work
  obtain ⟨e', e1, e2, e3⟩ := cc_refuse (rc := rc) C A (k := 1) (by decide) (by decide) (K := 1) rfl
  have h6 := A.crew.1
  have n40 := Nat.le_trans A.tr.1 A.tr.2.1
  by_cases c0 : jp_crew (sC σ) i = true
  · rw [if_pos c0]
    obtain ⟨j, hj, rfl⟩ := (jp_crew_iff h6).mp c0
    rw [pn_6 (by omega)]
    by_cases c1 : n < 1
    · rw [if_pos c1]
      refine ⟨e', fun d => ?_, e2, e3⟩
      rw [je_37, if_pos C.is, C.g13, jk_bs, cr_has C.crew h6, jk_cI, jk_if0, if_pos c0, if_pos c1, e1, jk_cI]
    rw [if_neg c1]
    by_cases c2 : n ≤ 12
    · rw [if_pos c2]
      have n0 : ¬ n < 0 := fun z => c1 (by
        rw [Int32.lt_iff_toInt_lt] at z ⊢
        rw [show (0 : Int32).toInt = 0 from by decide] at z
        rw [show (1 : Int32).toInt = 1 from by decide]; omega)
      have en := jk_of n0
      have ln := jk_of_lt n
      have l12 : pn n ≤ 12 := by
        unfold pn
        rw [en, show (12 : Int32) = Int32.ofNat 12 from rfl, jk_le ln (by decide)] at c2
        exact c2
      have en : n = Int32.ofNat (pn n) := en
      generalize pn n = m at *
      subst en
      have st : ∀ d, jx_C rc (d + 20) 37 [.ref 0, .int (Int32.ofNat j), .int (Int32.ofNat m)] h = _ := fun d => by
        rw [je_37, if_pos C.is, C.g13, jk_bs, cr_has C.crew h6, jk_cI, jk_if0, if_pos c0, if_neg c1, if_pos c2, C.g4, jk_bs, ct_g1 C.tr, jk_bs, ← Int32.ofNat_add]
      by_cases c3 : σ.2.1.1 + m ≤ 40
      · rw [if_pos c3]
        obtain ⟨h1, r1, r2, r3, r4, r5⟩ := cc_go (rc := rc) hr (i := j) (n := m) l12 m 0 h σ (by omega) hj C A c3
        rw [Nat.zero_add] at r2
        refine ⟨h1, fun d => ?_, r2, r3⟩
        have r0 := r1 (d + 12)
        rw [Nat.zero_add] at r0
        rw [st d, if_pos (by rw [show (40 : Int32) = Int32.ofNat 40 from rfl, jk_le (by omega) (by decide)]; exact c3), C.g13, jk_bs, cr_kind C.crew h6 hj, jk_cI, C.g13, jk_bs, cr_start C.crew h6 hj, jk_cI]
        exact r0
      · rw [if_neg c3]
        obtain ⟨f', f1, f2, f3⟩ := cc_refuse (rc := rc) C A (k := 4) (by decide) (by decide) (K := 4) rfl
        refine ⟨f', fun d => ?_, f2, f3⟩
        rw [st d, if_neg (by rw [show (40 : Int32) = Int32.ofNat 40 from rfl, jk_le (by omega) (by decide)]; exact c3), f1, jk_cI]
    · rw [if_neg c2]
      refine ⟨e', fun d => ?_, e2, e3⟩
      rw [je_37, if_pos C.is, C.g13, jk_bs, cr_has C.crew h6, jk_cI, jk_if0, if_pos c0, if_neg c1, if_neg c2, e1, jk_cI]
  · rw [if_neg c0]
    refine ⟨e', fun d => ?_, e2, e3⟩
    rw [je_37, if_pos C.is, C.g13, jk_bs, cr_has C.crew h6, jk_cI, jk_if0, if_neg c0, e1, jk_cI]
end
