/-! TEXTS: spell(), the class -/
section
variable {rc : Nat → Nat × (Nat → Int32)} {h h' : jxH} {a b c g : Nat} {f : jF}
theorem TB_not {n l : Nat} (h : bt (jt_T f l) n = false) : TB f (n + 1) l = TB f n l := by
  unfold TB
  rw [TBo_succ]
  cases e : TBo f (jt_T f l) n with
  | none => unfold tx_t; rw [if_neg (by rw [h]; simp)]
  | some j => unfold tx_t; dsimp only; rw [if_neg (by rw [h]; simp)]
theorem tx_sw {s : Nat} {U : List Nat} {s' : Nat} (K : tx_ok h s) (E : tx_at h s' U) (hs : s + 2 ≤ s' ∨ s' + 2 ≤ s) (hU : tx_g U) : ∃ h', (∀ d (f : jxH → jxR), ((jx_pF (jx_at h s) 8 1 (.int (0 : Int32))).bind fun e4 => jx_cV (jx_C rc (d + 2) 307 [.ref s, .ref s'] (jx_set h s e4)) f) = f h') ∧ tx_at h' s U ∧ Fr (jI s 2) h h' := by
  obtain ⟨z1, z2⟩ := tx_zero K
  have F0 : Fr (jI s 2) h (jx_set h s (jxO 8 [.ref (s + 1), .int 0])) := Fr.set ⟨by omega, by omega⟩
  obtain ⟨h1, a1, a2, a3⟩ := tx_addAll (rc := rc) z2 (tx_at_fr F0 (fun x x1 x2 w => by unfold jI at w; omega) E) (by omega) (by have := hU.1; simp; omega)
  exact ⟨h1, fun d f => by rw [z1, jk_bs, a1, jk_cV], a2, F0.trans a3⟩
/-- what is spelled so far -/
def sp_I (f : jF) (a g a2 : Nat) (p : Nat) (h : jxH) : Prop := sp_ok h a ∧ fo_at h g f ∧ tx_ok h a2 ∧ ∀ l, bt (tx_R f p) l = true → tx_at h (a + 9 + 4 * l) (TB f p l)
def jSp (a a2 : Nat) : Nat → Prop := fun x => (a ≤ x ∧ x < a + 55) ∨ (a2 ≤ x ∧ x < a2 + 2)
theorem cc_spell_1 (W : jf_W f) {a2 : Nat} (hg : g + 3 ≤ a ∨ a + 55 ≤ g) (h2 : a2 + 2 ≤ a ∨ a + 55 ≤ a2) (hg2 : g + 3 ≤ a2 ∨ a2 + 2 ≤ g) {p : Nat} (hp : p < 12) (I : sp_I f a g a2 p h) : ∃ h', (∀ d, jb_277 rc (d + 5) 4 [(0, .ref a), (1, .ref g), (2, .ref a2), (3, .int (tx_R f p)), (4, .int (Int32.ofNat p))] [] h = jb_277 rc (d + 5) 4 [(0, .ref a), (1, .ref g), (2, .ref a2), (3, .int (tx_R f (p + 1))), (4, .int (Int32.ofNat (p + 1)))] [] h') ∧ sp_I f a g a2 (p + 1) h' ∧ Fr (jSp a a2) h h' := by
  obtain ⟨H, G, K2, KT⟩ := I
  have B := W.1
  by_cases sp : bt f.2.2 p = true
  · obtain ⟨h1, o, par, dep, sz, w1, w2, w3, w4, w5, w6, w7⟩ := wk_from (rc := rc) H.2.1 G W (by omega) hp sp
    have J := wy_J_of B hp w3 w4 w5 w6
    obtain ⟨l, hlo, lp, Tl, bl⟩ := tx_lo B hp
    have l12 : l < 12 := by omega
    have nj : ∀ x, ¬ (a + 1 ≤ x ∧ x < a + 5) → ¬ jI (a + 1) 4 x := fun x hx w => by unfold jI at w; omega
    have H1 : sp_ok h1 a := by
      refine ⟨(w7.2.2 _ (nj _ (by omega))).trans H.1, wk_okof w2, ?_, ?_, fun j hj => ⟨?_, ?_⟩⟩
      · obtain ⟨Q, q1, q2⟩ := H.2.2.1
        exact ⟨Q, (w7.2.2 _ (nj _ (by omega))).trans q1, q2⟩
      · obtain ⟨Q, q1, q2⟩ := H.2.2.2.1
        exact ⟨Q, (w7.2.2 _ (nj _ (by omega))).trans q1, q2⟩
      · exact tx_fr w7 (fun x x1 x2 => nj x (by omega)) (sp_t1 H hj)
      · exact tx_fr w7 (fun x x1 x2 => nj x (by omega)) (sp_t2 H hj)
    have G1 := fo_fr w7 (fun x x1 x2 => nj x (by omega)) G
    obtain ⟨h3, t1, t2, t3, t4⟩ := cc_hang_l (rc := rc) W hg J 12 h1 (by omega) H1 G1 w2 (fun j l hj => by have := J.2.1; omega)
    have nh : ∀ x, (x < a + 7 ∨ a + 55 ≤ x ∨ ∃ i, i < 12 ∧ (x = a + 9 + 4 * i ∨ x = a + 10 + 4 * i)) → ¬ jHg a x := fun x hx w => by
      obtain ⟨i, hi, e⟩ := w
      rcases hx with z | z | ⟨j, hj, z⟩ <;> omega
    have G3 := fo_fr t4 (fun x x1 x2 => nh x (by omega)) G1
    have K23 := tx_fr t4 (fun x x1 x2 => nh x (by omega)) (tx_fr w7 (fun x x1 x2 => nj x (by omega)) K2)
    have TP : tx_at h3 (a + 7 + 4 * p) (TX f p 0) := by
      have := t3 0 w4
      rw [w5] at this
      have u0 : tx_u par p = 0 := by unfold tx_u; rw [w6]
      rw [u0] at this
      exact this
    have TPg : tx_g (TX f p 0) := by
      have := TX_g B J w4
      rw [w5] at this
      have u0 : tx_u par p = 0 := by unfold tx_u; rw [w6]
      rw [u0] at this
      exact this
    have KT3 : ∀ l, bt (tx_R f p) l = true → tx_at h3 (a + 9 + 4 * l) (TB f p l) := fun l hl => by
      have := ((tx_R_bt (by omega)).mp hl).1
      exact tx_at_fr t4 (fun x x1 x2 => nh x (Or.inr (Or.inr ⟨l, by omega, by omega⟩))) (tx_at_fr w7 (fun x x1 x2 => nj x (by omega)) (KT l hl))
    have F3 : Fr (jSp a a2) h h3 := (w7.mono fun x hx => by unfold jI at hx; exact Or.inl (by omega)).trans (t4.mono fun x ⟨i, hi, e⟩ => Or.inl (by omega))
    have Fl : ∀ h4, Fr (jI (a + 9 + 4 * l) 2) h3 h4 → Fr (jSp a a2) h h4 := fun h4 F => F3.trans (F.mono fun x hx => by unfold jI at hx; exact Or.inl (by omega))
    -- the others don't hold p
    have oth : ∀ l', bt (tx_R f p) l' = true → l' ≠ l → TB f (p + 1) l' = TB f p l' := fun l' hl' ne => by
      obtain ⟨z1, z2, z3⟩ := (tx_R_bt (by omega)).mp hl'
      refine TB_not ?_
      cases w : bt (jt_T f l') p
      · rfl
      · have := jt_T_sym B (by omega) w
        rw [← this, hlo] at z3
        injection z3 with z3
        exact absurd z3.symm ne
    -- up to the end of the reading
    have st : ∀ d, jb_277 rc (d + 5) 4 [(0, .ref a), (1, .ref g), (2, .ref a2), (3, .int (tx_R f p)), (4, .int (Int32.ofNat p))] [] h = jb_277 rc (d + 5) 37 [(0, .ref a), (1, .ref g), (2, .ref a2), (3, .int (tx_R f p ||| jk_bit l)), (4, .int (Int32.ofNat p)), (5, .int (Int32.ofNat l)), (6, .ref (a + 9 + 4 * l)), (7, .int (-1))] [] h3 := fun d => by
      obtain ⟨Q, q1, q2⟩ := sp_Q2 H1
      rw [je_277_4, if_neg (jk_n12 hp), sp_g0 H, jk_bs, w1, jk_cV, sp_g0 H1, jk_bs, wk_g4 w2, jk_bs, cl_leastOf, jk_cI, hlo, cl_isPlace, jk_cI, show jk_on (some l) = Int32.ofNat l from rfl, jp_place_of l12, jk_if0, if_pos rfl, sp_g2 H1, jk_bs, q1, jk_aQ l12 (by decide), jk_bs, q2 _ l12, jk_mos]
      exact t1 d a2 _ _ _ _
    obtain ⟨Q, q1, q2⟩ := sp_Q1 t2
    by_cases c : p = l
    · subst c
      obtain ⟨h4, s1, s2, s3⟩ := tx_sw (rc := rc) (sp_t2 t2 hp) TP (by omega) TPg
      have Rp : tx_R f (p + 1) = tx_R f p ||| jk_bit p := by
        show (if bt f.2.2 p = true ∧ lo (jt_T f p) = some p then _ else _) = _
        rw [if_pos ⟨sp, hlo⟩]
      have np : TBo f (jt_T f p) p = none := by
        cases e : TBo f (jt_T f p) p with
        | none => rfl
        | some j =>
          obtain ⟨j1, j2⟩ := TBo_in e
          have := (lo_some.mp hlo).2.2 j j1
          rw [this] at j2; cases j2
      have Tp : TB f (p + 1) p = TX f p 0 := by
        unfold TB
        rw [TBo_succ, np, show tx_t (fun k => TX f k 0) (jt_T f p) p none = some p from if_pos bl]
      refine ⟨h4, fun d => ?_, ⟨sp_put t2 ⟨p, hp, Or.inr rfl⟩ s3 s2, fo_fr s3 (fun x x1 x2 w => by unfold jI at w; omega) G3, tx_fr s3 (fun x x1 x2 w => by unfold jI at w; omega) K23, fun l' hl' => ?_⟩, Fl h4 s3⟩
      · rw [st, je_277_37, if_pos (by decide), sp_g1 t2, jk_bs, q1, jk_aQ hp (by decide), jk_bs, q2 _ hp, jk_mos, if_pos rfl, s1, jk_succ, Rp]
      · rw [Rp, bt_or, Bool.or_eq_true] at hl'
        by_cases z : l' = p
        · rw [z, Tp]; exact s2
        · have hl' : bt (tx_R f p) l' = true := by
            rcases hl' with w | w
            · exact w
            · exfalso
              rcases Nat.lt_or_ge l' 32 with y | y
              · rw [bt_bit (by omega) y] at w; exact z (of_decide_eq_true w)
              · rw [bt_big _ y] at w; cases w
          have := ((tx_R_bt (by omega)).mp hl').1
          rw [oth l' hl' z]
          exact tx_at_fr s3 (fun x x1 x2 w => by unfold jI at w; omega) (KT3 l' hl')
    · have lpp : l < p := by omega
      have lT : lo (jt_T f l) = some l := by rw [Tl]; exact hlo
      have sl := (jt_T_in B hp sp bl).2
      have Rl : bt (tx_R f p) l = true := (tx_R_bt (by omega)).mpr ⟨lpp, sl, lT⟩
      have Rp : tx_R f (p + 1) = tx_R f p := by
        show (if bt f.2.2 p = true ∧ lo (jt_T f p) = some p then _ else _) = _
        rw [if_neg (fun z => by rw [hlo] at z; have := z.2; injection this with this; exact c this.symm)]
      have Ro : tx_R f p ||| jk_bit l = tx_R f p := bt_ext fun k hk => by
        rw [bt_or, bt_bit (by omega) hk]
        by_cases z : k = l
        · rw [z, Rl]; rfl
        · simp [z]
      obtain ⟨j, hj⟩ : ∃ j, TBo f (jt_T f l) p = some j := tx_s_some (Or.inr ⟨l, by omega, by omega, by rw [Tl]; exact bl⟩)
      obtain ⟨j1, j2⟩ := TBo_in hj
      have Tj : TB f p l = TX f j 0 := by unfold TB; rw [hj]
      have bp : bt (jt_T f l) p = true := by rw [Tl]; exact jt_T_self f hp
      have jg : tx_g (TX f j 0) := by rw [← Tj]; exact (TB_len W l12 sl p (by omega)).2
      have A3 := KT3 l Rl
      rw [Tj] at A3
      have ah := fun d => tx_ahead (rc := rc) TP A3 TPg jg d
      by_cases w : lx (TX f p 0) (TX f j 0) = true
      · obtain ⟨h4, s1, s2, s3⟩ := tx_sw (rc := rc) (sp_t2 t2 l12) TP (by omega) TPg
        have Tp : TB f (p + 1) l = TX f p 0 := by
          unfold TB
          rw [TBo_succ, hj, show tx_t (fun k => TX f k 0) (jt_T f l) p (some j) = some p by unfold tx_t; simp [bp, w]]
        refine ⟨h4, fun d => ?_, ⟨sp_put t2 ⟨l, l12, Or.inr rfl⟩ s3 s2, fo_fr s3 (fun x x1 x2 w => by unfold jI at w; omega) G3, tx_fr s3 (fun x x1 x2 w => by unfold jI at w; omega) K23, fun l' hl' => ?_⟩, Fl h4 s3⟩
        · rw [st, je_277_37, if_pos (by decide), sp_g1 t2, jk_bs, q1, jk_aQ hp (by decide), jk_bs, q2 _ hp, jk_mos, if_neg (by rw [jk_inj (by omega) (by omega)]; exact c), ah, jk_cI, jk_if0, if_pos w, s1, jk_succ, Rp, Ro]
        · rw [Rp] at hl'
          by_cases z : l' = l
          · rw [z, Tp]; exact s2
          · have := ((tx_R_bt (by omega)).mp hl').1
            rw [oth l' hl' z]
            exact tx_at_fr s3 (fun x x1 x2 w => by unfold jI at w; omega) (KT3 l' hl')
      · have Tp : TB f (p + 1) l = TB f p l := by
          unfold TB
          rw [TBo_succ, hj, show tx_t (fun k => TX f k 0) (jt_T f l) p (some j) = some j by unfold tx_t; simp [bp, w]]
        refine ⟨h3, fun d => ?_, ⟨t2, G3, K23, fun l' hl' => ?_⟩, F3⟩
        · rw [st, je_277_37, if_pos (by decide), sp_g1 t2, jk_bs, q1, jk_aQ hp (by decide), jk_bs, q2 _ hp, jk_mos, if_neg (by rw [jk_inj (by omega) (by omega)]; exact c), ah, jk_cI, jk_if0, if_neg w, jk_succ, Rp, Ro]
        · rw [Rp] at hl'
          by_cases z : l' = l
          · rw [z, Tp]; exact KT3 l Rl
          · rw [oth l' hl' z]; exact KT3 l' hl'
  · have sp : bt f.2.2 p = false := by cases w : bt f.2.2 p <;> simp_all
    obtain ⟨h1, w1, w2, w7⟩ := wk_from_no (rc := rc) H.2.1 G (by omega) hp sp
    have nj : ∀ x, ¬ (a + 1 ≤ x ∧ x < a + 5) → ¬ jI (a + 1) 4 x := fun x hx w => by unfold jI at w; omega
    have H1 : sp_ok h1 a := by
      refine ⟨(w7.2.2 _ (nj _ (by omega))).trans H.1, wk_okof w2, ?_, ?_, fun j hj => ⟨?_, ?_⟩⟩
      · obtain ⟨Q, q1, q2⟩ := H.2.2.1
        exact ⟨Q, (w7.2.2 _ (nj _ (by omega))).trans q1, q2⟩
      · obtain ⟨Q, q1, q2⟩ := H.2.2.2.1
        exact ⟨Q, (w7.2.2 _ (nj _ (by omega))).trans q1, q2⟩
      · exact tx_fr w7 (fun x x1 x2 => nj x (by omega)) (sp_t1 H hj)
      · exact tx_fr w7 (fun x x1 x2 => nj x (by omega)) (sp_t2 H hj)
    have Rp : tx_R f (p + 1) = tx_R f p := by
      show (if bt f.2.2 p = true ∧ lo (jt_T f p) = some p then _ else _) = _
      rw [if_neg (by rw [sp]; simp)]
    refine ⟨h1, fun d => ?_, ⟨H1, fo_fr w7 (fun x x1 x2 => nj x (by omega)) G, tx_fr w7 (fun x x1 x2 => nj x (by omega)) K2, fun l hl => ?_⟩, w7.mono fun x hx => by unfold jI at hx; exact Or.inl (by omega)⟩
    · rw [je_277_4, if_neg (jk_n12 hp), sp_g0 H, jk_bs, w1, jk_cV, sp_g0 H1, jk_bs, wk_g4 w2, jk_bs, cl_leastOf, jk_cI, lo_0, cl_isPlace, jk_cI, show jp_place (jk_on none) = false by decide, jk_if0, if_neg (by decide), jk_succ, Rp]
    · rw [Rp] at hl
      obtain ⟨z1, z2, z3⟩ := (tx_R_bt (by omega)).mp hl
      rw [TB_not (by
        cases w : bt (jt_T f l) p
        · rfl
        · have := (jt_T_in B (by omega) z2 w).2; rw [sp] at this; cases this)]
      exact tx_at_fr w7 (fun x x1 x2 => nj x (by omega)) (KT l hl)
theorem cc_spell_l (W : jf_W f) {a2 : Nat} (hg : g + 3 ≤ a ∨ a + 55 ≤ g) (h2 : a2 + 2 ≤ a ∨ a + 55 ≤ a2) (hg2 : g + 3 ≤ a2 ∨ a2 + 2 ≤ g) : ∀ (m p : Nat) (h : jxH), p + m = 12 → sp_I f a g a2 p h → ∃ h', (∀ d, jb_277 rc (d + 5) 4 [(0, .ref a), (1, .ref g), (2, .ref a2), (3, .int (tx_R f p)), (4, .int (Int32.ofNat p))] [] h = some (none, h')) ∧ sp_ok h' a ∧ tx_at h' a2 (TT f) ∧ Fr (jSp a a2) h h'
  | 0, p, h, e, I => by
    obtain rfl : p = 12 := by omega
    obtain ⟨H, G, K2, KT⟩ := I
    obtain ⟨z1, z2⟩ := tx_zero K2
    have F0 : Fr (jI a2 2) h (jx_set h a2 (jxO 8 [.ref (a2 + 1), .int 0])) := Fr.set ⟨by omega, by omega⟩
    have H1 := sp_fr F0 (fun x x1 x2 w => by unfold jI at w; omega) H
    obtain ⟨h3, c1, c2, c3⟩ := cc_ino (rc := rc) (t := TB f 12) (b := a + 6) (c := a + 9) (by omega) (fun i hi hb => by omega) (tx_R_S 12 (by omega)) (sp_Q2 H1) (fun i hi hb => ⟨tx_at_fr F0 (fun x x1 x2 w => by unfold jI at w; omega) (KT i hb), (TB_len W hi ((tx_R_bt (by omega)).mp hb).2.1 12 (by omega)).2⟩) z2 (by have := TT_len W 12 (by omega); simpa using this)
    refine ⟨h3, fun d => ?_, sp_fr c3 (fun x x1 x2 w => by unfold jI at w; omega) H1, c2, (F0.trans c3).mono fun x hx => by unfold jI at hx; exact Or.inr (by omega)⟩
    rw [je_277_4, if_pos (by decide), z1, jk_bs, sp_g2 H1, jk_bs, c1, jk_cV]
  | m + 1, p, h, e, I => by
    obtain ⟨h1, s1, s2, s3⟩ := cc_spell_1 (rc := rc) W hg h2 hg2 (show p < 12 by omega) I
    obtain ⟨h3, t1, t2, t3, t4⟩ := cc_spell_l W hg h2 hg2 m (p + 1) h1 (by omega) s2
    exact ⟨h3, fun d => by rw [s1]; exact t1 d, t2, t3, s3.trans t4⟩
/-- spell() -/
theorem cc_spell (W : jf_W f) {a2 : Nat} (hg : g + 3 ≤ a ∨ a + 55 ≤ g) (h2 : a2 + 2 ≤ a ∨ a + 55 ≤ a2) (hg2 : g + 3 ≤ a2 ∨ a2 + 2 ≤ g) (H : sp_ok h a) (G : fo_at h g f) (K : tx_ok h a2) : ∃ h', (∀ d, jx_C rc (d + 6) 277 [.ref a, .ref g, .ref a2] h = some (none, h')) ∧ sp_ok h' a ∧ tx_at h' a2 (TT f) ∧ Fr (jSp a a2) h h' := by
  obtain ⟨h1, s1, s2, s3, s4⟩ := cc_spell_l (rc := rc) W hg h2 hg2 12 0 h rfl ⟨H, G, K, fun l hl => by unfold tx_R at hl; rw [bt_0] at hl; cases hl⟩
  exact ⟨h1, fun d => by rw [je_277, if_pos (sp_is H)]; exact s1 d, s2, s3, s4⟩
end
