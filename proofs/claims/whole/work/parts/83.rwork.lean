/-! work(): the reference -/
section
variable {rc : Nat → Nat × (Nat → Int32)} {h h' : jxH} {σ : jSt} {P : Nat → Prop} {c : jC}
theorem aa_work (A : AWt σ) (i n : Int32) : AWt (op_work σ i n).2 := by
  unfold op_work
  split
  · split
    · exact aa_er A
    · split
      · split
        · rename_i c3
          exact aa_crew (aa_go _ σ A c3) (jc_credit_W A.crew _ _)
        · exact aa_er A
      · exact aa_er A
  · exact aa_er A
theorem rr_credit (R : RSt h σ) (A : AWt σ) {i : Nat} (hi : i < (sC σ).1) {n : Nat} (hn : n ≤ 12) : ∃ h', (∀ d, jb_184 rc d 80 [(0, .ref 336), (1, .int (Int32.ofNat i)), (3, .int (Int32.ofNat n))] [] h = some (some (.int (Int32.ofNat n)), h')) ∧ RSt h' (setC σ (jc_credit (sC σ) i n)) ∧ rF h h' := by
  have h6 := A.crew.1
  have l := (A.crew.2 i hi).2.2
  obtain ⟨⟨a, b, cc, d', e, f, g, k', o, o'⟩, -⟩ := id R
  obtain ⟨G, g1, g2⟩ := id R.crew
  have F1 : Fr (fun x => x = 437) h (jx_set h 437 (jxI 0 18 (upd G (3 * i + 2) (Int32.ofNat (min 9999 ((sC σ).2.2.2 i + n)))))) := Fr.one
  have K := RS_crew (c' := jc_credit (sC σ) i n) R A F1 (fun x q => Or.inr q) ⟨a, b, cc, d', e, f, g, k', (F1.2.2 _ (by decide)).trans o, o'⟩ ⟨_, jk_at_self .., fun j hj => by
    have hj : j < (sC σ).1 := hj
    show _ = (sC σ).2.1 j ∧ _ = Int32.ofNat ((sC σ).2.2.1 j) ∧ _ = Int32.ofNat (va_up (sC σ).2.2.2 i (min 9999 ((sC σ).2.2.2 i + n)) j)
    obtain ⟨q0, q1, q2⟩ := g2 j hj
    unfold upd va_up
    refine ⟨by rw [if_neg (by omega)]; exact q0, by rw [if_neg (by omega)]; exact q1, ?_⟩
    by_cases z : j = i
    · rw [if_pos (by omega), if_pos z]
    · rw [if_neg (by omega), if_neg z]; exact q2⟩
  refine ⟨_, fun d => ?_, K.1, K.2⟩
  rw [je_184_80, R.g26, jk_bs, m_crew_2 R.crew h6 hi, jk_bs, jk_bs, ← Int32.ofNat_add, g1, show (2 : Int32) = Int32.ofNat 2 from rfl, jk_3]
  by_cases z : (sC σ).2.2.2 i + n ≤ 9999
  · rw [if_pos (by rw [show (9999 : Int32) = Int32.ofNat 9999 from rfl, jk_le (by omega) (by decide)]; exact z), jk_sI (by omega) (by decide), jk_bs, Nat.min_eq_right z]
  · rw [if_neg (by rw [show (9999 : Int32) = Int32.ofNat 9999 from rfl, jk_le (by omega) (by decide)]; exact z), jk_sI (by omega) (by decide), jk_bs, Nat.min_eq_left (by omega)]
    rfl
theorem rr_go {i n : Nat} (hn : n ≤ 12) : ∀ (m k : Nat) (h : jxH) (σ : jSt), k + m = n → i < (sC σ).1 → RSt h σ → AWt σ → σ.2.1.1 + m ≤ 40 → ∃ h', (∀ d, jb_184 rc (d + 12) 44 [(0, .ref 336), (1, .int (Int32.ofNat i)), (2, .int (Int32.ofNat n)), (3, .int (Int32.ofNat k)), (4, .int (jn_code (jn_plan (sF σ) ((sC σ).2.1 i) ((sC σ).2.2.1 i))))] [] h = some (some (.int (Int32.ofNat (k + (jw_go m σ ((sC σ).2.1 i) ((sC σ).2.2.1 i)).1))), h')) ∧ RSt h' (setC (jw_go m σ ((sC σ).2.1 i) ((sC σ).2.2.1 i)).2 (jc_credit (sC σ) i (k + (jw_go m σ ((sC σ).2.1 i) ((sC σ).2.2.1 i)).1))) ∧ rF h h'
  | 0, k, h, σ, e, hi, R, A, _ => by
    obtain ⟨h1, r1, r2, r3⟩ := rr_credit (rc := rc) R A hi (n := k) (by omega)
    refine ⟨h1, fun d => ?_, r2, r3⟩
    rw [je_184_44, if_pos ((jk_le (by omega) (by omega)).mpr (by omega)), r1]
    rfl
  | m + 1, k, h, σ, e, hi, R, A, h40 => by
    have W := jn_W_plan (sF σ) ((sC σ).2.1 i) ((sC σ).2.2.1 i)
    obtain ⟨g1, g2⟩ := jn_code_ge W
    cases hp : jn_plan (sF σ) ((sC σ).2.1 i) ((sC σ).2.2.1 i) with
    | none =>
      have e0 : jw_go (m + 1) σ ((sC σ).2.1 i) ((sC σ).2.2.1 i) = (0, σ) := by unfold jw_go; rw [hp]
      rw [e0]
      obtain ⟨h1, r1, r2, r3⟩ := rr_credit (rc := rc) R A hi (n := k) (by omega)
      refine ⟨h1, fun d => ?_, r2, r3⟩
      rw [je_184_44, if_neg (by rw [jk_le (by omega) (by omega)]; omega), if_pos (by decide), r1]
      rfl
    | some x =>
      obtain ⟨kk, j⟩ := x
      obtain ⟨w1, w2, w3⟩ := W kk j hp
      obtain ⟨q1, q2⟩ := g2 kk j hp
      have q0 : ¬ jn_code (some (kk, j)) < 0 := by
        have := g1.mpr (by rw [hp]; rfl)
        rw [hp] at this
        rw [Int32.le_iff_toInt_le] at this
        rw [Int32.lt_iff_toInt_lt]; omega
      rw [hp] at q1 q2
      have n3 := jm_norm_3 w1 (Int32.ofNat j)
      obtain ⟨h1, r1, r2, r3⟩ := rr_goes (rc := rc) R A (m := (kk, Int32.ofNat j, 0, 0, 0)) w3 (by omega)
      rw [n3] at r2
      dsimp only at r1
      have e1 : jw_go (m + 1) σ ((sC σ).2.1 i) ((sC σ).2.2.1 i) = ((jw_go m (jw_push σ kk j) ((sC σ).2.1 i) ((sC σ).2.2.1 i)).1 + 1, (jw_go m (jw_push σ kk j) ((sC σ).2.1 i) ((sC σ).2.2.1 i)).2) := by
        conv => lhs; unfold jw_go
        rw [hp]
      rw [e1]
      have A1 := aa_wpush A hp (by omega)
      have r2 : RSt h1 (jw_push σ kk j) := r2
      have h6 := A.crew.1
      obtain ⟨h3, u1, u2, u3⟩ := rr_go hn m (k + 1) h1 (jw_push σ kk j) (by omega) hi r2 A1 (by show σ.2.1.1 + 1 + m ≤ 40; omega)
      rw [show k + ((jw_go m (jw_push σ kk j) ((sC σ).2.1 i) ((sC σ).2.2.1 i)).1 + 1) = k + 1 + (jw_go m (jw_push σ kk j) ((sC σ).2.1 i) ((sC σ).2.2.1 i)).1 by omega]
      have N := fun d => rf_nextOf (rc := rc) r2.F A1.B.n ((sC σ).2.1 i) (mm := (sC σ).2.2.1 i) (by have := (A.crew.2 i hi).2.1; omega) d
      have m0 : jx_aI (jx_at h1 437) 0 (3 * Int32.ofNat i) = some ((sC σ).2.1 i) := m_crew_0 (c := sC σ) r2.crew h6 hi
      have m1 : jx_aI (jx_at h1 437) 0 (3 * Int32.ofNat i + 1) = some (Int32.ofNat ((sC σ).2.2.1 i)) := m_crew_1 (c := sC σ) r2.crew h6 hi
      refine ⟨h3, fun d => ?_, u2, r3.trans u3⟩
      rw [je_184_44, if_neg (by rw [jk_le (by omega) (by omega)]; omega), if_neg q0, if_neg (by decide), if_neg (by decide), q2, q1, r1, jk_cV, r2.g1, jk_bs, r2.g26, jk_bs, m0, jk_bs, jk_bs, m1, jk_bs, N, jk_cI, jk_succ]
      exact u1 d
theorem rr_work (R : RSt h σ) (A : AWt σ) (i n : Int32) : ∃ h', (∀ d, jx_C rc (d + 20) 184 [.ref 336, .int i, .int n] h = some (some (.int (op_work σ i n).1), h')) ∧ RSt h' (op_work σ i n).2 ∧ rF h h' := by
  unfold op_work
  obtain ⟨e', e1, e2, e3⟩ := rr_error (rc := rc) R A (k := 1) (by decide) (K := 1) rfl
  have h6 := A.crew.1
  have n40 := Nat.le_trans A.tr.1 A.tr.2.1
  by_cases c0 : jp_crew (sC σ) i = true
  · rw [if_pos c0]
    obtain ⟨j, hj, rfl⟩ := (jp_crew_iff h6).mp c0
    rw [pn_6 (by omega)]
    have st : ∀ d, jx_C rc (d + 20) 184 [.ref 336, .int (Int32.ofNat j), .int n] h = _ := fun d => by
      rw [je_184, if_pos R.is, rr_isWorker R A, jk_cI, jk_if0, if_pos c0, rf_in, jk_cI, jk_if0]
    have bt1 : jp_bt n.toInt64 1 12 = if n < 1 then false else if 12 < n then false else true := by
      unfold jp_bt
      rw [show (1 : Int64) = (1 : Int32).toInt64 from rfl, show (12 : Int64) = (12 : Int32).toInt64 from rfl]
      simp only [jk_l64]
    by_cases c1 : n < 1
    · rw [if_pos c1]
      refine ⟨e', fun d => ?_, e2, e3⟩
      rw [st d, bt1, if_pos c1, if_neg (by decide), e1, jk_cI]
    rw [if_neg c1]
    by_cases c2 : n ≤ 12
    · rw [if_pos c2]
      have c2' : ¬ 12 < n := fun z => by rw [Int32.lt_iff_toInt_lt] at z; rw [Int32.le_iff_toInt_le] at c2; omega
      have n0 : ¬ n < 0 := fun z => c1 (by
        rw [Int32.lt_iff_toInt_lt] at z ⊢
        rw [show (0 : Int32).toInt = 0 from by decide] at z
        rw [show (1 : Int32).toInt = 1 from by decide]; omega)
      have en := jk_of n0
      have ln := jk_of_lt n
      have l12 : pn n ≤ 12 := by
        unfold pn
        rw [en, show (12 : Int32) = Int32.ofNat 12 from rfl, jk_le ln (by decide)] at c2
        exact c2
      have en : n = Int32.ofNat (pn n) := en
      generalize pn n = m at *
      subst en
      by_cases c3 : σ.2.1.1 + m ≤ 40
      · rw [if_pos c3]
        obtain ⟨h1, r1, r2, r3⟩ := rr_go (rc := rc) (i := j) (n := m) l12 m 0 h σ (by omega) hj R A c3
        rw [Nat.zero_add] at r2
        refine ⟨h1, fun d => ?_, r2, r3⟩
        have r0 := r1 (d + 7)
        rw [Nat.zero_add] at r0
        have N := fun d => rf_nextOf (rc := rc) R.F A.B.n ((sC σ).2.1 j) (mm := (sC σ).2.2.1 j) (by have := (A.crew.2 j hj).2.1; omega) d
        rw [st d, bt1, if_neg c1, if_neg c2', if_pos rfl, R.done, jk_bs, ← Int32.ofNat_add, if_pos (by rw [show (40 : Int32) = Int32.ofNat 40 from rfl, jk_le (by omega) (by decide)]; exact c3), R.g1, jk_bs, R.g26, jk_bs, m_crew_0 R.crew h6 hj, jk_bs, jk_bs, m_crew_1 R.crew h6 hj, jk_bs, N, jk_cI]
        exact r0
      · rw [if_neg c3]
        obtain ⟨f', f1, f2, f3⟩ := rr_error (rc := rc) R A (k := 4) (by decide) (K := 4) rfl
        refine ⟨f', fun d => ?_, f2, f3⟩
        rw [st d, bt1, if_neg c1, if_neg c2', if_pos rfl, R.done, jk_bs, ← Int32.ofNat_add, if_neg (by rw [show (40 : Int32) = Int32.ofNat 40 from rfl, jk_le (by omega) (by decide)]; exact c3), f1, jk_cI]
    · rw [if_neg c2]
      refine ⟨e', fun d => ?_, e2, e3⟩
      have c2' : 12 < n := by rw [Int32.lt_iff_toInt_lt]; rw [Int32.le_iff_toInt_le] at c2; omega
      rw [st d, bt1, if_neg c1, if_pos c2', if_neg (by decide), e1, jk_cI]
  · rw [if_neg c0]
    refine ⟨e', fun d => ?_, e2, e3⟩
    rw [je_184, if_pos R.is, rr_isWorker R A, jk_cI, jk_if0, if_neg c0, e1, jk_cI]
end
