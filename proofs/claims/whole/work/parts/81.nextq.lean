/-! next(), both ways -/
def jn_W (f : jF) (o : Option (Int32 × Nat)) : Prop := ∀ k j, o = some (k, j) → jn_3 k ∧ j < 12 ∧ jf_ref f false (k, Int32.ofNat j, 0, 0, 0) = 0
theorem jn_W_mk {f : jF} {k w : Int32} (hk : jn_3 k) {m mn : Nat} {late : Bool} : jn_W f (jn_mk k (jn_seek f k w m late mn)) := fun k' j e => by
  cases h : jn_seek f k w m late mn with
  | none => rw [h] at e; cases e
  | some i =>
    rw [h] at e
    have e : some (k, i) = some (k', j) := e
    cases e
    obtain ⟨h1, h2⟩ := jn_seek_lt h
    refine ⟨hk, h1, ?_⟩
    unfold jn_ok at h2
    simp only [Bool.and_eq_true, decide_eq_true_eq] at h2
    exact h2.2.2.2
theorem jn_W_or {f : jF} {a b : Option (Int32 × Nat)} (ha : jn_W f a) (hb : jn_W f b) : jn_W f (jn_or a b) := by
  cases a with
  | none => exact hb
  | some x => exact ha
theorem jn_W_plan (f : jF) (kind : Int32) (m : Nat) : jn_W f (jn_plan f kind m) := by
  have t0 : jn_3 0 := Or.inl rfl
  have t4 : jn_3 4 := Or.inr (Or.inl rfl)
  have t5 : jn_3 5 := Or.inr (Or.inr rfl)
  unfold jn_plan
  split
  · exact jn_W_or (jn_W_mk t0) (jn_W_mk t0)
  split
  · exact jn_W_or (jn_W_mk t4) (jn_W_mk t0)
  split
  · exact jn_W_or (jn_W_mk t0) (jn_W_mk t0)
  split
  · exact jn_W_or (jn_W_mk t5) (jn_W_or (jn_W_mk t4) (jn_W_mk t0))
  split
  · exact jn_W_mk t0
  · exact jn_W_mk t0
theorem jn_code_ge {f : jF} {o : Option (Int32 × Nat)} (h : jn_W f o) : (0 ≤ jn_code o ↔ o.isSome = true) ∧ ∀ k j, o = some (k, j) → jn_code o / 100 = k ∧ jn_code o - jn_code o / 100 * 100 = Int32.ofNat j := by
  cases o with
  | none => exact ⟨⟨fun q => absurd q (by decide), fun q => by cases q⟩, fun k j e => by cases e⟩
  | some x =>
    obtain ⟨k, j⟩ := x
    obtain ⟨h1, h2, -⟩ := h k j rfl
    have z : ∀ j : Nat, j < 12 → (0 ≤ (100 : Int32) * 0 + Int32.ofNat j ∧ ((100 : Int32) * 0 + Int32.ofNat j) / 100 = 0 ∧ ((100 : Int32) * 0 + Int32.ofNat j) - ((100 : Int32) * 0 + Int32.ofNat j) / 100 * 100 = Int32.ofNat j) ∧ (0 ≤ (100 : Int32) * 4 + Int32.ofNat j ∧ ((100 : Int32) * 4 + Int32.ofNat j) / 100 = 4 ∧ ((100 : Int32) * 4 + Int32.ofNat j) - ((100 : Int32) * 4 + Int32.ofNat j) / 100 * 100 = Int32.ofNat j) ∧ (0 ≤ (100 : Int32) * 5 + Int32.ofNat j ∧ ((100 : Int32) * 5 + Int32.ofNat j) / 100 = 5 ∧ ((100 : Int32) * 5 + Int32.ofNat j) - ((100 : Int32) * 5 + Int32.ofNat j) / 100 * 100 = Int32.ofNat j) := by decide
    obtain ⟨z0, z4, z5⟩ := z j h2
    rcases h1 with rfl | rfl | rfl
    · exact ⟨⟨fun _ => rfl, fun _ => z0.1⟩, fun k j e => by cases e; exact z0.2⟩
    · exact ⟨⟨fun _ => rfl, fun _ => z4.1⟩, fun k j e => by cases e; exact z4.2⟩
    · exact ⟨⟨fun _ => rfl, fun _ => z5.1⟩, fun k j e => by cases e; exact z5.2⟩
theorem jp_part_hi (w : Int32) : jp_hi w 1 = jp_part w := by
  cases h : jp_part w
  · cases h2 : jp_hi w 1
    · rfl
    · obtain ⟨j, hj, rfl⟩ := (jp_hi_iff (n := 1) (by decide)).mp h2
      have : ∀ j : Nat, j ≤ 1 → jp_part (Int32.ofNat j) = true := by decide
      rw [this j hj] at h; cases h
  · unfold jp_part at h
    split at h
    · rename_i e; subst e; decide
    · split at h
      · rename_i e; subst e; decide
      · cases h
def op_next (σ : jSt) (i w : Int32) : Int32 × jSt := if jp_crew (sC σ) i = true then (if jp_part w = true then (match jn_plan (sF σ) ((sC σ).2.1 (pn i)) ((sC σ).2.2.1 (pn i)) with
  | some (k, j) => (if w = 0 then k else Int32.ofNat j, σ)
  | none => er σ 2) else er σ 1) else er σ 1
section
variable {rc : Nat → Nat × (Nat → Int32)} {h h' : jxH} {σ : jSt} {P : Nat → Prop}
theorem cc_plan (hr : jk_rom rc) (C : CSt h σ) (A : AWt σ) (kind : Int32) {mm : Nat} (hm : mm ≤ 9) : ∃ h1, (∀ d, jx_C rc (d + 7) 222 [.ref 8, .ref 2, .int kind, .int (Int32.ofNat mm)] h = some (some (.int (jk_b (jn_plan (sF σ) kind mm).isSome)), h1)) ∧ CSt h1 σ ∧ cF h h1 ∧ h1.1 = h.1 ∧ h1.2.1 = h.2.1 ∧ ∀ k j, jn_plan (sF σ) kind mm = some (k, j) → ∃ sg, st_at h1 8 (k, Int32.ofNat j, 0, 0, 0) sg := by
  obtain ⟨-, ⟨⟨m0, sg0, s0⟩, -⟩, -⟩ := C.scr
  obtain ⟨h1, ⟨m1, r1⟩, r2, r3, r4⟩ := cr_plan (rc := rc) hr s0 C.F A.B (by omega) kind (mm := mm) (by omega)
  obtain ⟨C1, F1⟩ := cc_step C A r2 ⟨_, _, r1⟩
  exact ⟨h1, r4, C1, F1, r2.1, r2.2.1, fun k j e => ⟨_, r3 k j e⟩⟩
theorem cc_next (hr : jk_rom rc) (C : CSt h σ) (A : AWt σ) (i w : Int32) : ∃ h', (∀ d, jx_C rc (d + 20) 36 [.ref 0, .int i, .int w] h = some (some (.int (op_next σ i w).1), h')) ∧ CSt h' (op_next σ i w).2 ∧ cF h h' := by
  unfold op_next
  obtain ⟨e', e1, e2, e3⟩ := cc_refuse (rc := rc) C A (k := 1) (by decide) (by decide) (K := 1) rfl
  have h6 := A.crew.1
  by_cases c0 : jp_crew (sC σ) i = true
  · rw [if_pos c0]
    by_cases c1 : jp_part w = true
    · rw [if_pos c1]
      obtain ⟨j, hj, rfl⟩ := (jp_crew_iff h6).mp c0
      rw [pn_6 (by omega)]
      obtain ⟨h1, r1, C1, F1, F2, F3, r5⟩ := cc_plan (rc := rc) hr C A ((sC σ).2.1 j) (A.crew.2 j hj).2.1
      have st : ∀ d, jx_C rc (d + 20) 36 [.ref 0, .int (Int32.ofNat j), .int w] h = _ := fun d => by
        rw [je_36, if_pos C.is, C.g13, jk_bs, cr_has C.crew h6, jk_cI, jk_if0, if_pos c0, cl_isPart, jk_cI, jk_if0, if_pos c1, C.g3, jk_bs, C.g1, jk_bs, C.g13, jk_bs, cr_kind C.crew h6 hj, jk_cI, C.g13, jk_bs, cr_start C.crew h6 hj, jk_cI, r1, jk_cI, jk_if0]
      cases hp : jn_plan (sF σ) ((sC σ).2.1 j) ((sC σ).2.2.1 j) with
      | none =>
        obtain ⟨f', f1, f2, f3⟩ := cc_refuse (rc := rc) C1 A (k := 2) (by decide) (by decide) (K := 2) rfl
        refine ⟨f', fun d => ?_, f2, F1.trans0 ⟨F2, F3⟩ f3⟩
        rw [st d, hp, if_neg (by decide), f1, jk_cI]
      | some x =>
        obtain ⟨k, p⟩ := x
        obtain ⟨sg, s1⟩ := r5 k p hp
        refine ⟨h1, fun d => ?_, C1, F1⟩
        rw [st d, hp, if_pos (show (some (k, p)).isSome = true from rfl)]
        by_cases w0 : w = 0
        · rw [if_pos w0, C1.g3, jk_bs, st_g0 s1, jk_bs]
          show _ = some (some (Value.int (if w = 0 then k else Int32.ofNat p)), h1)
          rw [if_pos w0]
        · rw [if_neg w0, C1.g3, jk_bs, st_g1 s1, jk_bs]
          show _ = some (some (Value.int (if w = 0 then k else Int32.ofNat p)), h1)
          rw [if_neg w0]
    · rw [if_neg c1]
      refine ⟨e', fun d => ?_, e2, e3⟩
      rw [je_36, if_pos C.is, C.g13, jk_bs, cr_has C.crew h6, jk_cI, jk_if0, if_pos c0, cl_isPart, jk_cI, jk_if0, if_neg c1, e1, jk_cI]
  · rw [if_neg c0]
    refine ⟨e', fun d => ?_, e2, e3⟩
    rw [je_36, if_pos C.is, C.g13, jk_bs, cr_has C.crew h6, jk_cI, jk_if0, if_neg c0, e1, jk_cI]
theorem rr_next (R : RSt h σ) (A : AWt σ) (i w : Int32) : ∃ h', (∀ d, jx_C rc (d + 20) 183 [.ref 336, .int i, .int w] h = some (some (.int (op_next σ i w).1), h')) ∧ RSt h' (op_next σ i w).2 ∧ rF h h' := by
  unfold op_next
  obtain ⟨e', e1, e2, e3⟩ := rr_error (rc := rc) R A (k := 1) (by decide) (K := 1) rfl
  have h6 := A.crew.1
  by_cases c0 : jp_crew (sC σ) i = true
  · rw [if_pos c0]
    by_cases c1 : jp_part w = true
    · rw [if_pos c1]
      obtain ⟨j, hj, rfl⟩ := (jp_crew_iff h6).mp c0
      rw [pn_6 (by omega)]
      have N := fun d => rf_nextOf (rc := rc) R.F A.B.n ((sC σ).2.1 j) (mm := (sC σ).2.2.1 j) (by have := (A.crew.2 j hj).2.1; omega) d
      obtain ⟨g1, g2⟩ := jn_code_ge (jn_W_plan (sF σ) ((sC σ).2.1 j) ((sC σ).2.2.1 j))
      have st : ∀ d, jx_C rc (d + 20) 183 [.ref 336, .int (Int32.ofNat j), .int w] h = _ := fun d => by
        rw [je_183, if_pos R.is, rr_isWorker R A, jk_cI, jk_if0, if_pos c0, rf_in, jk_cI, jk_if0, show (1 : Int64) = (1 : Int32).toInt64 from rfl, jp_bt_hi, jp_part_hi, if_pos c1, R.g1, jk_bs, R.g26, jk_bs, m_crew_0 R.crew h6 hj, jk_bs, jk_bs, m_crew_1 R.crew h6 hj, jk_bs, N, jk_cI]
      cases hp : jn_plan (sF σ) ((sC σ).2.1 j) ((sC σ).2.2.1 j) with
      | none =>
        obtain ⟨f', f1, f2, f3⟩ := rr_error (rc := rc) R A (k := 2) (by decide) (K := 2) rfl
        refine ⟨f', fun d => ?_, f2, f3⟩
        rw [st d, hp, if_neg (by decide), f1, jk_cI]
      | some x =>
        obtain ⟨k, p⟩ := x
        obtain ⟨q1, q2⟩ := g2 k p hp
        refine ⟨h, fun d => ?_, R, Fr.rfl⟩
        rw [st d, if_pos (g1.mpr (by rw [hp]; rfl)), q2, q1]
        by_cases w0 : w = 0
        · rw [if_pos w0, if_neg (by decide)]
          show _ = some (some (Value.int (if w = 0 then k else Int32.ofNat p)), h)
          rw [if_pos w0]
        · rw [if_neg w0, if_neg (by decide)]
          show _ = some (some (Value.int (if w = 0 then k else Int32.ofNat p)), h)
          rw [if_neg w0]
    · rw [if_neg c1]
      refine ⟨e', fun d => ?_, e2, e3⟩
      rw [je_183, if_pos R.is, rr_isWorker R A, jk_cI, jk_if0, if_pos c0, rf_in, jk_cI, jk_if0, show (1 : Int64) = (1 : Int32).toInt64 from rfl, jp_bt_hi, jp_part_hi, if_neg c1, e1, jk_cI]
  · rw [if_neg c0]
    refine ⟨e', fun d => ?_, e2, e3⟩
    rw [je_183, if_pos R.is, rr_isWorker R A, jk_cI, jk_if0, if_neg c0, e1, jk_cI]
theorem aa_next (A : AWt σ) (i w : Int32) : AWt (op_next σ i w).2 := by
  unfold op_next
  split
  · split
    · split
      · exact A
      · exact aa_er A
    · exact aa_er A
  · exact aa_er A
end
