/-! forest(): the reference's weightHere() -/
section
variable {rc : Nat → Nat × (Nat → Int32)} {h h' : jxH} {σ : jSt} {P : Nat → Prop}
theorem ty_r45 (p : jP) (i : Nat) : (ty_r p i = 45) ↔ ty_m p i = true := by
  unfold ty_r ty_m
  by_cases c : i < p.1
  · rw [if_pos c, decide_eq_true c]; simp
  · rw [if_neg c, decide_eq_false c]; simp
theorem rr_weight (A : AWt σ) {a : Nat} (la : a ≤ 130) (R : RA h σ a 0) : ∃ h' r, (∀ d, jx_C rc (d + 3) 158 [.ref 336] h = some (some (.int r), h')) ∧ ty_W σ (ty_s (sP σ) a) h' r ∧ Fr (fun x => x = 336) h h' := by
  have hp := A.tape.1
  obtain ⟨h1, r1, R1, F1⟩ := rr_here (rc := rc) A (by omega) R
  have FF := F1
  have li : ty_s (sP σ) a ≤ 130 := by
    by_cases q : a ≤ (sP σ).1
    · have := (ty_s_le q).2; omega
    · rw [ty_s_fix (fun z => by have := z.1; omega)]; omega
  generalize ty_s (sP σ) a = i at *
  have i0 : i ≤ ty_0 (sP σ) i ∧ ty_0 (sP σ) i ≤ i + 1 := by unfold ty_0; split <;> omega
  have st : ∀ d, jx_C rc (d + 3) 158 [.ref 336] h = jb_158 rc (d + 2) 22 [(0, .ref 336), (1, .int (if ty_m (sP σ) i = true then -1 else 1)), (2, .int (Int32.ofNat (ty_0 (sP σ) i))), (3, .int 0), (4, .int (Int32.ofNat 0))] [] h1 := fun d => by
    rw [je_158, if_pos R.1.is, r1, jk_cI]
    unfold ty_0
    by_cases c : ty_m (sP σ) i = true
    · rw [if_pos ((ty_r45 _ i).mpr c), if_pos c, if_pos c, if_neg (by decide), R1.2.1, jk_bs, jk_succ]; rfl
    · rw [if_neg (fun w => c ((ty_r45 _ i).mp w)), if_neg c, if_neg c, if_pos (by decide), R1.2.1, jk_bs]; rfl
  have l3 := ty_dc_le (p := sP σ) 3 (ty_0 (sP σ) i)
  have dd : ∀ t, t < ty_dc (sP σ) 3 (ty_0 (sP σ) i) → ty_d (sP σ) (ty_0 (sP σ) i + t) = true := fun t ht => ty_dc_d t ht
  have ds : ty_dc (sP σ) 3 (ty_0 (sP σ) i) < 3 → ty_d (sP σ) (ty_0 (sP σ) i + ty_dc (sP σ) 3 (ty_0 (sP σ) i)) = false := fun q => ty_dc_stop q
  obtain ⟨h2, b1, b2, b3, b4⟩ := rr_wt_bad (rc := rc) A R1
  unfold ty_W ty_w
  generalize hk : ty_0 (sP σ) i = k at *
  generalize hs : (if ty_m (sP σ) i = true then (-1 : Int32) else 1) = s at *
  have good : ∀ c, 1 ≤ c → c ≤ 2 → ty_d (sP σ) (k + c) = false → ty_v (sP σ) c k 0 ≤ 30 → ∃ h', (∀ d, jb_158 rc (d + 2) 22 [(0, .ref 336), (1, .int s), (2, .int (Int32.ofNat k)), (3, .int (ty_v (sP σ) c k 0)), (4, .int (Int32.ofNat c))] [] h1 = some (some (.int (if ty_m (sP σ) i = true then -ty_v (sP σ) c k 0 else ty_v (sP σ) c k 0)), h')) ∧ RA h' σ (i + (k - i + c)) 0 ∧ Fr (fun x => x = 336) h1 h' := fun c c1 c2 hd h30 => by
    obtain ⟨e, s1, s2, s3, s4⟩ := R1.1.setAt A (k + c)
    refine ⟨_, fun d => ?_, by rw [show i + (k - i + c) = k + c by omega]; exact s2 0 R1.2.2, s4⟩
    rw [je_158_22, jk_add2, rr_byte R1.1 A (by omega), jk_cI, rr_dig A, jk_cI, jk_if0, if_neg (by rw [hd]; decide), rf_in, jk_cI, jk_if0, jp_bt12 (by omega), if_pos (by rw [decide_eq_true ⟨c1, c2⟩]), if_pos h30, s1, jk_bs, ← hs]
    by_cases q : ty_m (sP σ) i = true
    · rw [if_pos q, if_pos q, Int32.neg_mul, Int32.one_mul]
    · rw [if_neg q, if_neg q, Int32.one_mul]
  have v1 : ty_v (sP σ) 1 k 0 = 0 * 10 + (sP σ).2 k - 48 := rfl
  have v2 : ty_v (sP σ) 2 k 0 = ty_v (sP σ) 1 k 0 * 10 + (sP σ).2 (k + 1) - 48 := rfl
  generalize hr : ty_dc (sP σ) 3 k = r at *
  have rr : r = 0 ∨ r = 1 ∨ r = 2 ∨ r = 3 := by omega
  rcases rr with rfl | rfl | rfl | rfl
  · rw [if_pos rfl]
    refine ⟨h2, 0, fun d => ?_, ⟨rfl, b3⟩, FF.trans b4⟩
    rw [st d, b1 d k 0 0 (by omega) (ds (by omega)) (by omega) (by omega)]
  · have m0 := fun d => rr_wt_more (rc := rc) R1.1 A (x := k) (c := 0) (by omega) (dd 0 (by omega)) s 0 d
    rw [if_neg (by omega : ¬ 2 ≤ 0)] at m0
    have e1 : (0 : Int32) * 10 + (sP σ).2 (k + 0) - 48 = ty_v (sP σ) 1 k 0 := rfl
    rw [e1] at m0
    rw [if_neg (by omega), if_neg (by omega)]
    by_cases c : ty_v (sP σ) 1 k 0 ≤ 30
    · rw [if_pos c]
      obtain ⟨h3, g1, g2, g3⟩ := good 1 (by omega) (by omega) (ds (by omega)) c
      exact ⟨h3, _, fun d => (st d).trans ((m0 d).trans (g1 d)), ⟨rfl, g2⟩, FF.trans g3⟩
    · rw [if_neg c]
      exact ⟨h2, 0, fun d => (st d).trans ((m0 d).trans (b2 d k _ 1 (by omega) (ds (by omega)) (by omega) (by omega) c s)), ⟨rfl, b3⟩, FF.trans b4⟩
  · have m0 := fun d => rr_wt_more (rc := rc) R1.1 A (x := k) (c := 0) (by omega) (dd 0 (by omega)) s 0 d
    rw [if_neg (by omega : ¬ 2 ≤ 0)] at m0
    have e1 : (0 : Int32) * 10 + (sP σ).2 (k + 0) - 48 = ty_v (sP σ) 1 k 0 := rfl
    rw [e1] at m0
    have m1 := fun d => rr_wt_more (rc := rc) R1.1 A (x := k) (c := 1) (by omega) (dd 1 (by omega)) s (ty_v (sP σ) 1 k 0) d
    rw [if_neg (by omega : ¬ 2 ≤ 1), ← v2] at m1
    rw [if_neg (by omega), if_neg (by omega)]
    by_cases c : ty_v (sP σ) 2 k 0 ≤ 30
    · rw [if_pos c]
      obtain ⟨h3, g1, g2, g3⟩ := good 2 (by omega) (by omega) (ds (by omega)) c
      exact ⟨h3, _, fun d => (st d).trans ((m0 d).trans ((m1 d).trans (g1 d))), ⟨rfl, g2⟩, FF.trans g3⟩
    · rw [if_neg c]
      exact ⟨h2, 0, fun d => (st d).trans ((m0 d).trans ((m1 d).trans (b2 d k _ 2 (by omega) (ds (by omega)) (by omega) (by omega) c s))), ⟨rfl, b3⟩, FF.trans b4⟩
  · have m0 := fun d => rr_wt_more (rc := rc) R1.1 A (x := k) (c := 0) (by omega) (dd 0 (by omega)) s 0 d
    have m1 := fun d x3 => rr_wt_more (rc := rc) R1.1 A (x := k) (c := 1) (by omega) (dd 1 (by omega)) s x3 d
    have m2 := fun d x3 => rr_wt_more (rc := rc) R1.1 A (x := k) (c := 2) (by omega) (dd 2 (by omega)) s x3 d
    rw [if_neg (by omega), if_pos (by omega)]
    have tail := fun d x3 => rr_wt_tail (rc := rc) (s := s) (x := k) (h1 := h2) R1.1 A (by omega) (fun d x3 c hc hd h3 => b1 d k x3 c (by omega) hd (by omega) (by omega) s) d ((sP σ).1 - (k + 3)) 3 x3 (by omega) (by omega) (Nat.le_refl _)
    exact ⟨h2, 0, fun d => (st d).trans ((m0 d).trans ((m1 d _).trans ((m2 d _).trans (tail d _)))), ⟨rfl, b3⟩, FF.trans b4⟩
end
