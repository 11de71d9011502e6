/-! LEAST: the reference -/
section
variable {rc : Nat → Nat × (Nat → Int32)} {h h' h0 : jxH} {σ : jSt} {f : jF}
theorem RSt.ly (R : RSt h σ) : ly_A h ∧ ∃ g, jx_at h 429 = jxI 0 64 g := by
  obtain ⟨-, -, -, -, -, -, -, a8, a9, a10, a11, a12, a13, a14, -⟩ := R.scr
  exact ⟨⟨⟨R.M, a8, a9, a10⟩, a11, a12, a13⟩, a14⟩
theorem RSt.lied (R : RSt h σ) (A : AWt σ) (F : Fr (fun x => x = 336 ∨ (402 ≤ x ∧ x < 430)) h h') (L : ly_A h') (g429 : ∃ g, jx_at h' 429 = jxI 0 64 g) {n : Nat} (O : ly_O h h' n) : RSt h' σ ∧ rF h h' := by
  have F1 : Fr (fun x => 402 ≤ x ∧ x < 430) h (jx_set h' 336 (jx_at h 336)) := ⟨F.1, F.2.1, fun x hx => by
    by_cases z : x = 336
    · subst z; rw [jk_at_self]
    · rw [jk_at_ne _ _ z]; exact F.2.2 x (by omega)⟩
  have F2 : Fr (fun x => x = 336) (jx_set h' 336 (jx_at h 336)) h' := ⟨rfl, rfl, fun x hx => by rw [jk_at_ne _ _ hx]⟩
  have S : m_scr (jx_set h' 336 (jx_at h 336)) := by
    have n := fun x hx => F1.2.2 x hx
    have n' : ∀ x, x ≠ 336 → jx_at (jx_set h' 336 (jx_at h 336)) x = jx_at h' x := fun x hx => jk_at_ne _ _ hx
    obtain ⟨⟨g1, a1⟩, ⟨g2, a2⟩, ⟨g3, a3⟩, ⟨Q4, a4, b4⟩, a5, ⟨g6, a6⟩, ⟨g7, a7⟩, -, -, -, -, -, -, -, ⟨g15, a15⟩, ⟨Q16, a16, b16⟩, a17⟩ := R.scr
    obtain ⟨⟨-, ⟨Q8, a8, b8⟩, a9, g10, a10⟩, ⟨Q11, a11, b11⟩, a12, g13, a13⟩ := L
    obtain ⟨g14, a14⟩ := g429
    refine ⟨⟨g1, (n _ (by omega)).trans a1⟩, ⟨g2, (n _ (by omega)).trans a2⟩, ⟨g3, (n _ (by omega)).trans a3⟩, ⟨Q4, (n _ (by omega)).trans a4, b4⟩, fun i hi => ?_, ⟨g6, ro_fr F1 (by omega) a6⟩, ⟨g7, (n _ (by omega)).trans a7⟩, ⟨Q8, (n' _ (by omega)).trans a8, b8⟩, fun i hi => ?_, ⟨g10, (n' _ (by omega)).trans a10⟩, ⟨Q11, (n' _ (by omega)).trans a11, b11⟩, fun i hi => ?_, ⟨g13, (n' _ (by omega)).trans a13⟩, ⟨g14, (n' _ (by omega)).trans a14⟩, ⟨g15, (n _ (by omega)).trans a15⟩, ⟨Q16, (n _ (by omega)).trans a16, b16⟩, fun i hi => ?_⟩
    · obtain ⟨g, e⟩ := a5 i hi; exact ⟨g, (n _ (by omega)).trans e⟩
    · obtain ⟨g, e⟩ := a9 i hi; exact ⟨g, (n' _ (by omega)).trans e⟩
    · obtain ⟨g, e⟩ := a12 i hi; exact ⟨g, (n' _ (by omega)).trans e⟩
    · obtain ⟨g, e⟩ := a17 i hi; exact ⟨g, ro_fr F1 (by omega) e⟩
  have R1 := RS_scr R A F1 (fun x hx => by unfold m_scrP; omega) S
  obtain ⟨⟨at_, wrong, texted, dues, fl, fm, ff, kh, o, o'⟩, -⟩ := id R
  obtain ⟨c1, c2, c3, c4, c5, c6, c7, c8, c9, c10, c11, c12, c13, oe, oe'⟩ := O
  have e := oe.symm.trans o
  simp [m_obj, jxO] at e
  obtain ⟨rfl, rfl, rfl, rfl, rfl, rfl, rfl, rfl, rfl, rfl, rfl, rfl, rfl⟩ := e
  obtain ⟨R2, -⟩ := R1.same A F2 ⟨_, _, _, _, _, _, _, _, oe', o'⟩
  exact ⟨R2, F.mono fun x hx => by omega⟩
theorem rr_least (R : RSt h σ) (A : AWt σ) (x : Int32) : ∃ h', (∀ d, jx_C rc (d + 20) 167 [.ref 336, .int x] h = some (some (.int (op_least σ x).1), h')) ∧ RSt h' (op_least σ x).2 ∧ rF h h' := by
  unfold op_least
  by_cases c0 : (-1 : Int32) ≤ x
  · rw [if_pos c0]
    obtain ⟨L, g429⟩ := R.ly
    obtain ⟨h1, r1, r2, r3, r4, r5⟩ := rl_text (rc := rc) A.W (by decide) (by decide) L g429 R.F
    obtain ⟨R1, F1⟩ := R.lied A r5 r2 (by obtain ⟨g, e, -⟩ := r4; exact ⟨g, e⟩) r3
    have g := TT_g A.W
    have l60 := g.1
    have st : ∀ d, jx_C rc (d + 20) 167 [.ref 336, .int x] h = _ := fun d => by
      rw [je_167, if_pos R.is, if_pos c0, R.g1, jk_bs, r1 (d + 2), jk_cV]
    by_cases c1 : x = -1
    · rw [if_pos c1]
      refine ⟨h1, fun d => ?_, R1, F1⟩
      rw [st d, if_neg (by rw [c1]; decide), r3.g21, jk_bs]
    · rw [if_neg c1]
      have nn : ¬ x < 0 := fun z => by
        rw [Int32.le_iff_toInt_le, show (-1 : Int32).toInt = -1 from rfl] at c0
        rw [Int32.lt_iff_toInt_lt, show (0 : Int32).toInt = 0 from rfl] at z
        exact c1 (Int32.toInt_inj.mp (by rw [show (-1 : Int32).toInt = -1 from rfl]; omega))
      have x0 : (0 : Int32) ≤ x := by
        rw [Int32.lt_iff_toInt_lt] at nn
        rw [Int32.le_iff_toInt_le]; omega
      by_cases c2 : Int32.ofNat (TT (sF σ)).length ≤ x
      · rw [if_pos c2]
        obtain ⟨g', g1, g2, g3⟩ := rr_error (rc := rc) R1 A (k := 2) (by decide) (K := 2) rfl
        refine ⟨g', fun d => ?_, g2, F1.trans g3⟩
        rw [st d, if_pos x0, r3.g21, jk_bs, if_pos c2, g1, jk_cI]
      · rw [if_neg c2]
        have ex := jk_of nn
        have lx31 := jk_of_lt x
        have lk : x.toNatClampNeg < (TT (sF σ)).length := by
          rw [ex, jk_le (by omega) (by omega)] at c2; omega
        obtain ⟨g, e, q⟩ := id r4
        refine ⟨h1, fun d => ?_, R1, F1⟩
        have w : jx_aI (jx_at h1 429) 0 x = some (Int32.ofNat ((TT (sF σ)).getD (pn x) 0)) := by
          rw [e]
          have := jk_aI (t := 0) (g := g) (show x.toNatClampNeg < 64 by omega) (by decide)
          rw [← ex] at this
          rw [this, q _ lk]
          rfl
        rw [st d, if_pos x0, r3.g21, jk_bs, if_neg c2, r2.g20, jk_bs, w, jk_bs]
  · rw [if_neg c0]
    obtain ⟨e', e1, e2, e3⟩ := rr_error (rc := rc) R A (k := 1) (by decide) (K := 1) rfl
    refine ⟨e', fun d => ?_, e2, e3⟩
    rw [je_167, if_pos R.is, if_neg c0, e1, jk_cI]
end
