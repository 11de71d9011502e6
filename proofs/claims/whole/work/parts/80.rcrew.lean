/-! The reference: worker, workerIs, become, as; the crew stays well formed -/
section
variable {rc : Nat → Nat × (Nat → Int32)} {h h' : jxH} {σ : jSt} {P : Nat → Prop} {c : jC}
theorem RSt.crew (R : RSt h σ) : m_crew h 437 (sC σ) := R.2.2.2.2.2.2.1
theorem RSt.g26 (R : RSt h σ) : jx_gR (jx_at h 336) 12 26 = some 437 := R.M.g 26 437 (by intros; rfl)
theorem RSt.hired (R : RSt h σ) : jx_gI (jx_at h 336) 12 27 = some (Int32.ofNat (sC σ).1) := by
  obtain ⟨⟨a, b, c, d, e, f, g, k, o, -⟩, -⟩ := R
  rw [o]; rfl
theorem RS_crew {c' : jC} (R : RSt h σ) (A : AWt σ) (F : Fr P h h') (hP : ∀ x, P x → x = 336 ∨ x = 437) (hO : ∃ a b c d e f g k : Int32, jx_at h' 336 = m_obj (Int32.ofNat σ.2.1.1) (Int32.ofNat σ.2.1.2.1) (Int32.ofNat σ.2.2.2.2.2.2.1) a b c d (Int32.ofNat c'.1) e f g k (jk_b σ.2.2.2.2.2.1.isSome) ∧ (σ.2.2.2.2.2.1.isSome = true → k = Int32.ofNat (im_n σ.2.2.2.2.2.1))) (S : m_crew h' 437 c') : RSt h' (setC σ c') ∧ rF h h' := by
  have n : ∀ x, ¬ (x = 336 ∨ x = 437) → ¬ P x := fun x a b => a (hP x b)
  obtain ⟨-, r1, r2, r3, r4, r5, r6, r7, r8, r9⟩ := R
  exact ⟨⟨hO, mtold_fr F (n _ (by omega)) r1, ro_fr F (n _ (by omega)) r2, mtr_fr F (fun x _ _ => n _ (by omega)) A.tr.2.1 r3, msh_fr F (fun x _ _ => n _ (by omega)) r4, mss_fr F (fun x _ _ => n _ (by omega)) r5, S, mim_fr F (n _ (by omega)) (n _ (by omega)) r7, mtape_fr F (n _ (by omega)) r8, mscr_fr F (fun x q => n _ (by unfold m_scrP at q; omega)) r9⟩, F.mono fun x q => by have := hP x q; omega⟩
theorem rr_isWorker (R : RSt h σ) (A : AWt σ) (i : Int32) (d : Nat) : jx_C rc (d + 2) 175 [.ref 336, .int i] h = some (some (.int (jk_b (jp_crew (sC σ) i))), h) := by
  have h6 := A.crew.1
  have e : jp_hi i (Int32.ofNat (sC σ).1 - 1) = jp_crew (sC σ) i := by
    cases q : jp_crew (sC σ) i
    · cases q2 : jp_hi i (Int32.ofNat (sC σ).1 - 1)
      · rfl
      · match w : (sC σ).1 with
        | 0 =>
          rw [w] at q2
          unfold jp_hi at q2
          by_cases c1 : i < 0
          · rw [if_pos c1] at q2; cases q2
          · rw [if_neg c1, if_pos] at q2
            · cases q2
            · rw [Int32.lt_iff_toInt_lt] at c1 ⊢
              rw [show (Int32.ofNat 0 - 1 : Int32).toInt = -1 from by decide]
              rw [show (0 : Int32).toInt = 0 from by decide] at c1
              omega
        | n + 1 =>
          rw [w, jk_pred] at q2
          obtain ⟨j, hj, e⟩ := (jp_hi_iff (by omega)).mp q2
          rw [(jp_crew_iff h6).mpr ⟨j, by omega, e⟩] at q; cases q
    · obtain ⟨j, hj, e⟩ := (jp_crew_iff h6).mp q
      obtain ⟨n, w⟩ : ∃ n, (sC σ).1 = n + 1 := ⟨(sC σ).1 - 1, by omega⟩
      rw [w, jk_pred]
      exact (jp_hi_iff (by omega)).mpr ⟨j, by omega, e⟩
  rw [je_175, if_pos R.is, R.hired, jk_bs, rf_in, show (0 : Int64) = (0 : Int32).toInt64 from rfl]
  rw [show jp_bt i.toInt64 (Int32.toInt64 0) (Int32.ofNat (sC σ).1 - 1).toInt64 = jp_crew (sC σ) i from (jp_bt_hi i _).trans e, jk_cI, if_pos (jk_bb _)]
theorem jk_3 (i j : Nat) : (3 : Int32) * Int32.ofNat i + Int32.ofNat j = Int32.ofNat (3 * i + j) := by
  rw [show (3 : Int32) = Int32.ofNat 3 from rfl, ← Int32.ofNat_mul, ← Int32.ofNat_add]
theorem jk_30 (i : Nat) : (3 : Int32) * Int32.ofNat i = Int32.ofNat (3 * i) := by
  rw [show (3 : Int32) = Int32.ofNat 3 from rfl, ← Int32.ofNat_mul]
theorem m_crew_0 (H : m_crew h 437 c) (h6 : c.1 ≤ 6) {i : Nat} (hi : i < c.1) : jx_aI (jx_at h 437) 0 (3 * Int32.ofNat i) = some (c.2.1 i) := by
  obtain ⟨G, e, q⟩ := H
  rw [jk_30, e, jk_aI (by omega) (by decide), (q i hi).1]
theorem m_crew_1 (H : m_crew h 437 c) (h6 : c.1 ≤ 6) {i : Nat} (hi : i < c.1) : jx_aI (jx_at h 437) 0 (3 * Int32.ofNat i + 1) = some (Int32.ofNat (c.2.2.1 i)) := by
  obtain ⟨G, e, q⟩ := H
  rw [show (1 : Int32) = Int32.ofNat 1 from rfl, jk_3, e, jk_aI (by omega) (by decide), (q i hi).2.1]
theorem m_crew_2 (H : m_crew h 437 c) (h6 : c.1 ≤ 6) {i : Nat} (hi : i < c.1) : jx_aI (jx_at h 437) 0 (3 * Int32.ofNat i + 2) = some (Int32.ofNat (c.2.2.2 i)) := by
  obtain ⟨G, e, q⟩ := H
  rw [show (2 : Int32) = Int32.ofNat 2 from rfl, jk_3, e, jk_aI (by omega) (by decide), (q i hi).2.2]
theorem rf_cost {k : Int32} {s : Nat} (hs : s ≤ 9) (d : Nat) : jx_C rc (d + 1) 177 [.int k, .int (Int32.ofNat s)] h = some (some (.int (jc_cost k s)), h) := by
  rw [je_177]
  unfold jc_cost
  have z : ∀ s : Nat, s ≤ 9 → (2 : Int32) * Int32.ofNat s + 2 = 2 * (Int32.ofNat s + 1) ∧ (2 : Int32) * Int32.ofNat s + 7 = 2 * (Int32.ofNat s + 1) + 5 ∧ (3 : Int32) * Int32.ofNat s + 3 = 3 * (Int32.ofNat s + 1) ∧ Int32.ofNat s - 3 = Int32.ofNat s + 1 - 4 := by decide
  obtain ⟨z1, z2, z3, z4⟩ := z s hs
  by_cases c1 : k = 1
  · rw [if_pos c1, if_pos c1, z1]
  rw [if_neg c1, if_neg c1]
  by_cases c2 : k = 2
  · rw [if_pos (show k = 1 + 1 from c2), if_pos c2]
  rw [if_neg (show ¬ k = 1 + 1 from c2), if_neg c2]
  by_cases c3 : k = 3
  · rw [if_pos (show k = 1 + 1 + 1 from c3), if_pos c3, z2]
  rw [if_neg (show ¬ k = 1 + 1 + 1 from c3), if_neg c3]
  by_cases c4 : k = 4
  · rw [if_pos (show k = 1 + 1 + 1 + 1 from c4), if_pos c4, z3]
  rw [if_neg (show ¬ k = 1 + 1 + 1 + 1 from c4), if_neg c4]
  by_cases c5 : k = 5
  · rw [if_pos (show k = 1 + 1 + 1 + 1 + 1 from c5), if_pos c5, z4]
  rw [if_neg (show ¬ k = 1 + 1 + 1 + 1 + 1 from c5), if_neg c5]
theorem mo_g26 (a1 a2 a3 a4 a5 a6 a7 a8 a9 a10 a11 a12 a13 : Int32) : jx_gR (m_obj a1 a2 a3 a4 a5 a6 a7 a8 a9 a10 a11 a12 a13) 12 26 = some 437 := rfl
theorem mo_g27 (a1 a2 a3 a4 a5 a6 a7 a8 a9 a10 a11 a12 a13 : Int32) : jx_gI (m_obj a1 a2 a3 a4 a5 a6 a7 a8 a9 a10 a11 a12 a13) 12 27 = some a8 := rfl
theorem mo_p27 (x a1 a2 a3 a4 a5 a6 a7 a8 a9 a10 a11 a12 a13 : Int32) : jx_pF (m_obj a1 a2 a3 a4 a5 a6 a7 a8 a9 a10 a11 a12 a13) 12 27 (.int x) = some (m_obj a1 a2 a3 a4 a5 a6 a7 x a9 a10 a11 a12 a13) := rfl
theorem rr_worker (R : RSt h σ) (A : AWt σ) (k s : Int32) : ∃ h', (∀ d, jx_C rc (d + 20) 176 [.ref 336, .int k, .int s] h = some (some (.int (op_worker σ k s).1), h')) ∧ RSt h' (op_worker σ k s).2 ∧ rF h h' := by
  unfold op_worker
  have h6 := A.crew.1
  obtain ⟨e', e1, e2, e3⟩ := rr_error (rc := rc) R A (k := 1) (by decide) (K := 1) rfl
  by_cases c0 : jp_kind k = true
  · rw [if_pos c0]
    by_cases c1 : jp_start s = true
    · rw [if_pos c1]
      have st : ∀ d, jx_C rc (d + 20) 176 [.ref 336, .int k, .int s] h = _ := fun d => by
        rw [je_176, if_pos R.is, rf_in, jk_cI, jk_if0, show (5 : Int64) = (5 : Int32).toInt64 from rfl, jp_bt_hi, jp_kind_hi, if_pos c0, rf_in, jk_cI, jk_if0, show (9 : Int64) = (9 : Int32).toInt64 from rfl, jp_bt_hi, jp_start_hi, if_pos c1, R.hired, jk_bs]
      by_cases c2 : (sC σ).1 < 6
      · rw [if_pos c2]
        obtain ⟨j, hj, rfl⟩ := jp_start_iff.mp c1
        rw [show pn (Int32.ofNat j) = j from jk_cl (by omega)]
        obtain ⟨⟨a, b, cc, d', e, f, g, k', o, o'⟩, -⟩ := id R
        obtain ⟨G, g1, g2⟩ := R.crew
        generalize hn : (sC σ).1 = n at *
        have on : jx_at h 336 = m_obj (Int32.ofNat σ.2.1.1) (Int32.ofNat σ.2.1.2.1) (Int32.ofNat σ.2.2.2.2.2.2.1) a b cc d' (Int32.ofNat n) e f g k' (jk_b σ.2.2.2.2.2.1.isSome) := o
        have F1 : Fr (fun x => x = 437) h (jx_set h 437 (jxI 0 18 (upd (upd (upd G (3 * n) k) (3 * n + 1) (Int32.ofNat j)) (3 * n + 2) 0))) := Fr.one
        have F2 : Fr (fun x => x = 336) (jx_set h 437 (jxI 0 18 (upd (upd (upd G (3 * n) k) (3 * n + 1) (Int32.ofNat j)) (3 * n + 2) 0))) (jx_set (jx_set h 437 (jxI 0 18 (upd (upd (upd G (3 * n) k) (3 * n + 1) (Int32.ofNat j)) (3 * n + 2) 0))) 336 (m_obj (Int32.ofNat σ.2.1.1) (Int32.ofNat σ.2.1.2.1) (Int32.ofNat σ.2.2.2.2.2.2.1) a b cc d' (Int32.ofNat (n + 1)) e f g k' (jk_b σ.2.2.2.2.2.1.isSome))) := Fr.one
        have K := RS_crew (c' := jc_hire (sC σ) k j) R A ((F1.mono fun x q => Or.inr q).trans (F2.mono fun x q => Or.inl q)) (fun x q => q) ⟨a, b, cc, d', e, f, g, k', (jk_at_self ..).trans (by rw [show (jc_hire (sC σ) k j).1 = n + 1 by rw [← hn]; rfl]), o'⟩ ⟨_, (F2.2.2 437 (by decide)).trans (jk_at_self ..), fun i hi => by
          have hi : i < (sC σ).1 + 1 := hi
          show _ = upd (sC σ).2.1 (sC σ).1 k i ∧ _ = Int32.ofNat (va_up (sC σ).2.2.1 (sC σ).1 j i) ∧ _ = Int32.ofNat (va_up (sC σ).2.2.2 (sC σ).1 0 i)
          rw [hn] at hi ⊢
          unfold upd va_up
          by_cases z : i = n
          · subst z
            refine ⟨?_, ?_, ?_⟩
            · rw [if_neg (by omega), if_neg (by omega), if_pos rfl, if_pos rfl]
            · rw [if_neg (by omega), if_pos rfl, if_pos rfl]
            · rw [if_pos rfl, if_pos rfl]; rfl
          · obtain ⟨q0, q1, q2⟩ := g2 i (by omega)
            refine ⟨?_, ?_, ?_⟩
            · rw [if_neg (by omega), if_neg (by omega), if_neg (by omega), if_neg z]; exact q0
            · rw [if_neg (by omega), if_neg (by omega), if_neg (by omega), if_neg z]; exact q1
            · rw [if_neg (by omega), if_neg (by omega), if_neg (by omega), if_neg z]; exact q2⟩
        refine ⟨_, fun d => ?_, K.1, K.2⟩
        have oo : ∀ x, jx_at (jx_set h 437 x) 336 = m_obj (Int32.ofNat σ.2.1.1) (Int32.ofNat σ.2.1.2.1) (Int32.ofNat σ.2.2.2.2.2.2.1) a b cc d' (Int32.ofNat n) e f g k' (jk_b σ.2.2.2.2.2.1.isSome) := fun x => (jk_at_ne _ _ (by decide)).trans on
        rw [st d, if_neg (by rw [show (6 : Int32) = Int32.ofNat 6 from rfl, jk_inj (by omega) (by decide)]; omega), on, mo_g26, jk_bs, jk_bs, g1, jk_30, jk_sI (by omega) (by decide), jk_bs, oo, mo_g26, jk_bs, mo_g27, jk_bs, jk_at_self, show (1 : Int32) = Int32.ofNat 1 from rfl, jk_3, jk_sI (by omega) (by decide), jk_bs, jk_set_set, oo, mo_g26, jk_bs, mo_g27, jk_bs, jk_at_self, show (2 : Int32) = Int32.ofNat 2 from rfl, jk_3, jk_sI (by omega) (by decide), jk_bs, jk_set_set, oo, mo_g27, jk_bs, show Int32.ofNat n + Int32.ofNat 1 = Int32.ofNat (n + 1) from jk_succ n, mo_p27, jk_bs, jk_at_self, mo_g27, jk_bs, show Int32.ofNat (n + 1) - Int32.ofNat 1 = Int32.ofNat n from jk_pred n]
      · rw [if_neg c2]
        obtain ⟨f', f1, f2, f3⟩ := rr_error (rc := rc) R A (k := 4) (by decide) (K := 4) rfl
        refine ⟨f', fun d => ?_, f2, f3⟩
        have w6 : (sC σ).1 = 6 := by omega
        rw [st d, if_pos (by rw [w6]; rfl), f1, jk_cI]
    · rw [if_neg c1]
      refine ⟨e', fun d => ?_, e2, e3⟩
      rw [je_176, if_pos R.is, rf_in, jk_cI, jk_if0, show (5 : Int64) = (5 : Int32).toInt64 from rfl, jp_bt_hi, jp_kind_hi, if_pos c0, rf_in, jk_cI, jk_if0, show (9 : Int64) = (9 : Int32).toInt64 from rfl, jp_bt_hi, jp_start_hi, if_neg c1, e1, jk_cI]
  · rw [if_neg c0]
    refine ⟨e', fun d => ?_, e2, e3⟩
    rw [je_176, if_pos R.is, rf_in, jk_cI, jk_if0, show (5 : Int64) = (5 : Int32).toInt64 from rfl, jp_bt_hi, jp_kind_hi, if_neg c0, e1, jk_cI]
theorem rr_workerIs (R : RSt h σ) (A : AWt σ) (i w : Int32) : ∃ h', (∀ d, jx_C rc (d + 20) 178 [.ref 336, .int i, .int w] h = some (some (.int (op_workerIs σ i w).1), h')) ∧ RSt h' (op_workerIs σ i w).2 ∧ rF h h' := by
  unfold op_workerIs
  obtain ⟨e', e1, e2, e3⟩ := rr_error (rc := rc) R A (k := 1) (by decide) (K := 1) rfl
  have h6 := A.crew.1
  by_cases c0 : jp_crew (sC σ) i = true
  · rw [if_pos c0]
    obtain ⟨j, hj, rfl⟩ := (jp_crew_iff h6).mp c0
    rw [pn_6 (by omega)]
    have st : ∀ d, jp_hi w 3 = true → jx_C rc (d + 20) 178 [.ref 336, .int (Int32.ofNat j), .int w] h = _ := fun d q => by
      rw [je_178, if_pos R.is, rr_isWorker R A, jk_cI, jk_if0, if_pos c0, rf_in, jk_cI, jk_if0, show (3 : Int64) = (3 : Int32).toInt64 from rfl, jp_bt_hi, if_pos q]
    by_cases w0 : w = 0
    · rw [if_pos w0]
      refine ⟨h, fun d => ?_, R, Fr.rfl⟩
      rw [st d (by subst w0; decide), if_neg (by subst w0; decide), R.g26, jk_bs, w0, Int32.add_zero, m_crew_0 R.crew h6 hj, jk_bs]
    rw [if_neg w0]
    by_cases w1 : w = 1
    · rw [if_pos w1]
      refine ⟨h, fun d => ?_, R, Fr.rfl⟩
      rw [st d (by subst w1; decide), if_neg (by subst w1; decide), R.g26, jk_bs, w1, m_crew_1 R.crew h6 hj, jk_bs]
    rw [if_neg w1]
    by_cases w2 : w = 2
    · rw [if_pos w2]
      refine ⟨h, fun d => ?_, R, Fr.rfl⟩
      rw [st d (by subst w2; decide), if_neg (by subst w2; decide), R.g26, jk_bs, w2, m_crew_2 R.crew h6 hj, jk_bs]
    rw [if_neg w2]
    by_cases w3 : w = 3
    · rw [if_pos w3]
      refine ⟨h, fun d => ?_, R, Fr.rfl⟩
      rw [st d (by subst w3; decide), if_pos (by subst w3; decide), R.g26, jk_bs, m_crew_0 R.crew h6 hj, jk_bs, jk_bs, m_crew_1 R.crew h6 hj, jk_bs, rf_cost (A.crew.2 j hj).2.1, jk_cI]
    rw [if_neg w3]
    have nh : ¬ jp_hi w 3 = true := fun q => by
      obtain ⟨j, hj, rfl⟩ := (jp_hi_iff (n := 3) (by decide)).mp q
      have : ∀ j : Nat, j ≤ 3 → ¬ (Int32.ofNat j ≠ 0 ∧ Int32.ofNat j ≠ 1 ∧ Int32.ofNat j ≠ 2 ∧ Int32.ofNat j ≠ 3) := by decide
      exact this j hj ⟨w0, w1, w2, w3⟩
    refine ⟨e', fun d => ?_, e2, e3⟩
    rw [je_178, if_pos R.is, rr_isWorker R A, jk_cI, jk_if0, if_pos c0, rf_in, jk_cI, jk_if0, show (3 : Int64) = (3 : Int32).toInt64 from rfl, jp_bt_hi, if_neg nh, e1, jk_cI]
  · rw [if_neg c0]
    refine ⟨e', fun d => ?_, e2, e3⟩
    rw [je_178, if_pos R.is, rr_isWorker R A, jk_cI, jk_if0, if_neg c0, e1, jk_cI]
theorem rr_become (R : RSt h σ) (A : AWt σ) (i k : Int32) : ∃ h', (∀ d, jx_C rc (d + 20) 179 [.ref 336, .int i, .int k] h = some (some (.int (op_become σ i k).1), h')) ∧ RSt h' (op_become σ i k).2 ∧ rF h h' := by
  unfold op_become
  obtain ⟨e', e1, e2, e3⟩ := rr_error (rc := rc) R A (k := 1) (by decide) (K := 1) rfl
  have h6 := A.crew.1
  by_cases c0 : jp_crew (sC σ) i = true
  · rw [if_pos c0]
    by_cases c1 : jp_kind k = true
    · rw [if_pos c1]
      obtain ⟨j, hj, rfl⟩ := (jp_crew_iff h6).mp c0
      rw [pn_6 (by omega)]
      obtain ⟨⟨a, b, cc, d', e, f, g, k', o, o'⟩, -⟩ := id R
      obtain ⟨G, g1, g2⟩ := id R.crew
      have F1 : Fr (fun x => x = 437) h (jx_set h 437 (jxI 0 18 (upd G (3 * j) k))) := Fr.one
      have K := RS_crew (c' := jc_train (sC σ) j k) R A F1 (fun x q => Or.inr q) ⟨a, b, cc, d', e, f, g, k', (F1.2.2 _ (by decide)).trans o, o'⟩ ⟨_, jk_at_self .., fun i hi => by
        have hi : i < (sC σ).1 := hi
        show _ = upd (sC σ).2.1 j k i ∧ _ = Int32.ofNat ((sC σ).2.2.1 i) ∧ _ = Int32.ofNat ((sC σ).2.2.2 i)
        obtain ⟨q0, q1, q2⟩ := g2 i hi
        unfold upd
        refine ⟨?_, by rw [if_neg (by omega)]; exact q1, by rw [if_neg (by omega)]; exact q2⟩
        by_cases z : i = j
        · rw [if_pos (by omega), if_pos z]
        · rw [if_neg (by omega), if_neg z]; exact q0⟩
      refine ⟨_, fun d => ?_, K.1, K.2⟩
      rw [je_179, if_pos R.is, rr_isWorker R A, jk_cI, jk_if0, if_pos c0, rf_in, jk_cI, jk_if0, show (5 : Int64) = (5 : Int32).toInt64 from rfl, jp_bt_hi, jp_kind_hi, if_pos c1, R.g26, jk_bs, m_crew_0 R.crew h6 hj, jk_bs, jk_bs, g1, jk_30, jk_sI (by omega) (by decide), jk_bs]
    · rw [if_neg c1]
      refine ⟨e', fun d => ?_, e2, e3⟩
      rw [je_179, if_pos R.is, rr_isWorker R A, jk_cI, jk_if0, if_pos c0, rf_in, jk_cI, jk_if0, show (5 : Int64) = (5 : Int32).toInt64 from rfl, jp_bt_hi, jp_kind_hi, if_neg c1, e1, jk_cI]
  · rw [if_neg c0]
    refine ⟨e', fun d => ?_, e2, e3⟩
    rw [je_179, if_pos R.is, rr_isWorker R A, jk_cI, jk_if0, if_neg c0, e1, jk_cI]
theorem rr_as (R : RSt h σ) (A : AWt σ) (i k : Int32) : ∃ h', (∀ d, jx_C rc (d + 20) 180 [.ref 336, .int i, .int k] h = some (some (.int (op_as σ i k).1), h')) ∧ RSt h' (op_as σ i k).2 ∧ rF h h' := by
  unfold op_as
  obtain ⟨e', e1, e2, e3⟩ := rr_error (rc := rc) R A (k := 1) (by decide) (K := 1) rfl
  have h6 := A.crew.1
  by_cases c0 : jp_crew (sC σ) i = true
  · rw [if_pos c0]
    by_cases c1 : jp_kind k = true
    · rw [if_pos c1]
      obtain ⟨j, hj, rfl⟩ := (jp_crew_iff h6).mp c0
      rw [pn_6 (by omega)]
      obtain ⟨f', f1, f2, f3⟩ := rr_error (rc := rc) R A (k := 6) (by decide) (K := 6) rfl
      have st : ∀ d, jx_C rc (d + 20) 180 [.ref 336, .int (Int32.ofNat j), .int k] h = _ := fun d => by
        rw [je_180, if_pos R.is, rr_isWorker R A, jk_cI, jk_if0, if_pos c0, rf_in, jk_cI, jk_if0, show (5 : Int64) = (5 : Int32).toInt64 from rfl, jp_bt_hi, jp_kind_hi, if_pos c1, R.g26, jk_bs, m_crew_0 R.crew h6 hj, jk_bs]
      have ok : ∀ d, (if (1 : Int32) = 0 then jx_cI (jx_C rc (d + 19) 73 [Value.ref 336, Value.int 6] h) fun v h => some (some (Value.int v), h) else (some 437).bind fun b => (jx_aI (jx_at h b) 0 (3 * Int32.ofNat j + 1)).bind fun v => some (some (Value.int v), h)) = some (some (.int (Int32.ofNat ((sC σ).2.2.1 j))), h) := fun d => by
        rw [if_neg (by decide), jk_bs, m_crew_1 R.crew h6 hj, jk_bs]
      by_cases c2 : jc_under ((sC σ).2.1 j) k = true
      · rw [if_pos c2]
        refine ⟨h, fun d => ?_, R, Fr.rfl⟩
        unfold jc_under at c2
        rw [st d]
        by_cases k0 : k = 0
        · rw [if_pos k0]; exact ok d
        rw [if_neg k0]
        by_cases kj : k = (sC σ).2.1 j
        · rw [if_pos kj]; exact ok d
        rw [if_neg kj]
        by_cases k1 : k = 1
        · rw [if_pos k1]
          by_cases j3 : (sC σ).2.1 j = 3
          · rw [if_pos j3]; exact ok d
          · simp [k0, kj, k1, j3] at c2
            rw [k1] at kj; exact absurd c2 kj
        · rw [if_neg k1, je_180_32]
          by_cases k2 : k = 2
          · rw [if_pos k2]
            by_cases j4 : (sC σ).2.1 j = 4
            · rw [if_pos j4, R.g26]; exact ok d
            · simp [k0, kj, k1, j4] at c2
          · simp [k0, kj, k1, k2] at c2
      · rw [if_neg c2]
        refine ⟨f', fun d => ?_, f2, f3⟩
        have no : ∀ d (X : jxR), (if (0 : Int32) = 0 then jx_cI (jx_C rc (d + 19) 73 [Value.ref 336, Value.int 6] h) fun v h => some (some (Value.int v), h) else X) = some (some (.int (er σ 6).1), f') := fun d X => by
          rw [if_pos rfl, f1, jk_cI]
        unfold jc_under at c2
        simp only [Bool.or_eq_true, Bool.and_eq_true, decide_eq_true_eq, not_or, not_and] at c2
        obtain ⟨⟨⟨k0, kj⟩, k1⟩, k2⟩ := c2
        rw [st d, if_neg k0, if_neg kj]
        by_cases q1 : k = 1
        · rw [if_pos q1, if_neg (k1 q1), je_180_32, if_neg (by rw [q1]; decide)]
          exact no d _
        · rw [if_neg q1, je_180_32]
          by_cases q2 : k = 2
          · rw [if_pos q2, if_neg (k2 q2)]
            exact no d _
          · rw [if_neg q2]
            exact no d _
    · rw [if_neg c1]
      refine ⟨e', fun d => ?_, e2, e3⟩
      rw [je_180, if_pos R.is, rr_isWorker R A, jk_cI, jk_if0, if_pos c0, rf_in, jk_cI, jk_if0, show (5 : Int64) = (5 : Int32).toInt64 from rfl, jp_bt_hi, jp_kind_hi, if_neg c1, e1, jk_cI]
  · rw [if_neg c0]
    refine ⟨e', fun d => ?_, e2, e3⟩
    rw [je_180, if_pos R.is, rr_isWorker R A, jk_cI, jk_if0, if_neg c0, e1, jk_cI]
theorem aa_crew (A : AWt σ) {c' : jC} (W : cr_W c') : AWt (setC σ c') := ⟨A.1, A.2.1, A.2.2.1, W, A.2.2.2.2⟩
theorem aa_worker (A : AWt σ) (k s : Int32) : AWt (op_worker σ k s).2 := by
  unfold op_worker
  split
  · rename_i c0
    split
    · rename_i c1
      split
      · rename_i c2
        obtain ⟨j, hj, rfl⟩ := jp_start_iff.mp c1
        rw [show pn (Int32.ofNat j) = j from jk_cl (by omega)]
        refine aa_crew A ⟨by show (sC σ).1 + 1 ≤ 6; omega, fun i hi => ?_⟩
        have hi : i < (sC σ).1 + 1 := hi
        show jp_kind (upd (sC σ).2.1 (sC σ).1 k i) = true ∧ va_up (sC σ).2.2.1 (sC σ).1 j i ≤ 9 ∧ va_up (sC σ).2.2.2 (sC σ).1 0 i ≤ 9999
        unfold upd va_up
        by_cases z : i = (sC σ).1
        · rw [if_pos z, if_pos z, if_pos z]; exact ⟨c0, hj, by omega⟩
        · rw [if_neg z, if_neg z, if_neg z]; exact A.crew.2 i (by omega)
      · exact aa_er A
    · exact aa_er A
  · exact aa_er A
theorem aa_workerIs (A : AWt σ) (i w : Int32) : AWt (op_workerIs σ i w).2 := by
  unfold op_workerIs
  repeat' split
  all_goals first | exact A | exact aa_er A
theorem aa_become (A : AWt σ) (i k : Int32) : AWt (op_become σ i k).2 := by
  unfold op_become
  split
  · split
    · rename_i c1
      refine aa_crew A ⟨A.crew.1, fun j hj => ?_⟩
      show jp_kind (upd (sC σ).2.1 (pn i) k j) = true ∧ _
      unfold upd
      by_cases z : j = pn i
      · rw [if_pos z]; exact ⟨c1, (A.crew.2 j hj).2⟩
      · rw [if_neg z]; exact A.crew.2 j hj
    · exact aa_er A
  · exact aa_er A
theorem aa_as (A : AWt σ) (i k : Int32) : AWt (op_as σ i k).2 := by
  unfold op_as
  repeat' split
  all_goals first | exact A | exact aa_er A
end
