/-! REACH: what so many moves come to; the class -/
def rch_l (F : jF → Bool) (f : jF) : Nat → Nat → Bool
  | 0, _ => false
  | r + 1, k => match dg_n f k with
    | some g => if F g = true then true else rch_l F f r (k + 1)
    | none => rch_l F f r (k + 1)
noncomputable def rch (T : List Nat) : Nat → jF → Bool
  | 0, f => if TT f = T then true else false
  | m + 1, f => if rch_l (rch T m) f 12 0 = true then true else rch T m (jf_mirror f)
noncomputable def rc_first (T : List Nat) (f : jF) : Nat → Nat → Option Nat
  | 0, _ => none
  | m + 1, k => if rch T k f = true then some k else rc_first T f m (k + 1)
theorem rch_l_true {F : jF → Bool} {f : jF} : ∀ {r k : Nat}, rch_l F f r k = true → ∃ p g, k ≤ p ∧ p < k + r ∧ dg_n f p = some g ∧ F g = true
  | 0, k, h => by cases h
  | r + 1, k, h => by
    unfold rch_l at h
    cases e : dg_n f k with
    | none =>
      rw [e] at h
      obtain ⟨p, g, a, b, c⟩ := rch_l_true h
      exact ⟨p, g, by omega, by omega, c⟩
    | some g =>
      rw [e] at h
      dsimp only at h
      by_cases z : F g = true
      · exact ⟨k, g, Nat.le_refl _, by omega, e, z⟩
      · rw [if_neg z] at h
        obtain ⟨p, g, a, b, c⟩ := rch_l_true h
        exact ⟨p, g, by omega, by omega, c⟩
/-- a move takes two away at most -/
theorem rch_size {G : jF} (V : jf_W G) : ∀ (m : Nat) (f : jF), jf_W f → rch (TT G) m f = true → bc G.2.2 ≤ bc f.2.2 ∧ bc f.2.2 ≤ bc G.2.2 + 2 * m
  | 0, f, W, h => by
    unfold rch at h
    by_cases z : TT f = TT G
    · have := (TT_same W V z).1; omega
    · rw [if_neg z] at h; cases h
  | m + 1, f, W, h => by
    unfold rch at h
    by_cases z : rch_l (rch (TT G) m) f 12 0 = true
    · obtain ⟨p, g, -, p12, e, t⟩ := rch_l_true z
      obtain ⟨W2, a, b, -⟩ := dg_n_W W (by omega) e
      obtain ⟨x, y⟩ := rch_size V m g W2 t
      omega
    · rw [if_neg z] at h
      obtain ⟨x, y⟩ := rch_size V m (jf_mirror f) (jf_W_mirror W) h
      have : bc (jf_mirror f).2.2 = bc f.2.2 := rfl
      omega
noncomputable def op_reach (σ : jSt) (k n : Int32) : Int32 × jSt := if jp_four k = true then (if jp_hi n 3 = true then (match σ.2.2.1 (pn k) with
  | some g => (match rc_first (TT g) (sF σ) (pn n + 1) 0 with
    | some x => (Int32.ofNat x, σ)
    | none => er σ 2)
  | none => er σ 7) else er σ 1) else er σ 1
def cg_P (d x : Nat) : Prop := x = 245 ∨ (249 ≤ x ∧ x < 306) ∨ (308 + 3 * (d + 1) ≤ x ∧ x < 320)
def cg_I (h : jxH) (G : jF) : Prop := sg_I h G ∧ jx_gR (jx_at h 243) 3 0 = some 244 ∧ jx_gR (jx_at h 243) 3 1 = some 245 ∧ (∃ Q, jx_at h 244 = jxQ 4 4 Q ∧ ∀ i, i < 4 → Q i = some (308 + 3 * i)) ∧ ∃ m sg, st_at h 245 m sg
section
variable {rc : Nat → Nat × (Nat → Int32)} {h h' : jxH} {a b : Nat} {f G : jF} {σ : jSt} {P : Nat → Prop}
theorem cg_fr (F : Fr P h h') (hP : ∀ x, (x = 243 ∨ x = 244 ∨ x = 245 ∨ (249 ≤ x ∧ x < 308)) → ¬ P x) (I : cg_I h G) : cg_I h' G := by
  obtain ⟨I, g0, g1, ⟨Q, q1, q2⟩, m, sg, s⟩ := I
  exact ⟨sg_I_fr F (fun x hx => hP x (by omega)) I, by rw [F.2.2 _ (hP _ (by omega))]; exact g0, by rw [F.2.2 _ (hP _ (by omega))]; exact g1, ⟨Q, (F.2.2 _ (hP _ (by omega))).trans q1, q2⟩, m, sg, st_fr F (hP _ (by omega)) s⟩
theorem cg_st (F : Fr (fun x => x = 245) h h') (I : cg_I h G) {m : jM} {sg : Int32} (s : st_at h' 245 m sg) : cg_I h' G := by
  obtain ⟨I, g0, g1, ⟨Q, q1, q2⟩, -⟩ := I
  exact ⟨sg_I_fr F (by omega) I, by rw [F.2.2 _ (by omega)]; exact g0, by rw [F.2.2 _ (by omega)]; exact g1, ⟨Q, (F.2.2 _ (by omega)).trans q1, q2⟩, m, sg, s⟩
theorem cg_level (I : cg_I h G) {i : Nat} (hi : i < 4) (d : Nat) : jx_C rc (d + 1) 263 [.ref 243, .int (Int32.ofNat i)] h = some (some (.ref (308 + 3 * i)), h) := by
  obtain ⟨I, g0, g1, ⟨Q, q1, q2⟩, -⟩ := I
  rw [je_263, if_pos (sg_is I.1), if_neg (jk_nn (by omega)), g0, jk_bs, q1, show jx_len (jxQ 4 4 Q) = some 4 from rfl, jk_bs, if_neg (by rw [jk_le (by decide) (by omega)]; omega), jk_bs, q1, jk_aQ hi (by decide), jk_bs, q2 i hi, jk_mos]
def cg_D (rc : Nat → Nat × (Nat → Int32)) (G : jF) (m : Nat) : Prop := ∀ (d : Nat) (f : jF) (h : jxH), d + m ≤ 3 → jf_W f → cg_I h G → fo_at h (308 + 3 * d) f → (∀ i, d < i → i < 4 → ∃ g, fo_at h (308 + 3 * i) g) → ∃ h', (∀ D, jx_C rc (D + m + 11) 270 [.ref 243, .int (Int32.ofNat d), .int (Int32.ofNat (d + m))] h = some (some (.int (jk_b (rch (TT G) m f))), h')) ∧ cg_I h' G ∧ Fr (cg_P d) h h' ∧ (∀ i, d < i → i < 4 → ∃ g, fo_at h' (308 + 3 * i) g)
theorem cg_lvl {d : Nat} (F : Fr (cg_P d) h h') (K : fo_at h (308 + 3 * d) f) (hd : d < 4) : fo_at h' (308 + 3 * d) f := fo_fr F (fun x a b w => by unfold cg_P at w; omega) K
theorem jk_bbl (b : Bool) : jx_bool (jk_b b) = true := by cases b <;> decide
theorem cg_loop (hr : jk_rom rc) {m d : Nat} (ih : cg_D rc G m) (hd : d + (m + 1) ≤ 3) (W : jf_W f) : ∀ (r k : Nat) (h : jxH), k + r = 12 → cg_I h G → fo_at h (308 + 3 * d) f → (∀ i, d < i → i < 4 → ∃ g, fo_at h (308 + 3 * i) g) → ∃ h', (∀ D, jb_270 rc (D + m + 11) 44 [(0, .ref 243), (1, .int (Int32.ofNat d)), (2, .int (Int32.ofNat (d + (m + 1)))), (3, .ref (308 + 3 * d)), (5, .ref (308 + 3 * (d + 1))), (6, .int (Int32.ofNat k))] [] h = some (some (.int (jk_b (if rch_l (rch (TT G) m) f r k = true then true else rch (TT G) m (jf_mirror f)))), h')) ∧ cg_I h' G ∧ Fr (cg_P d) h h' ∧ (∀ i, d < i → i < 4 → ∃ g, fo_at h' (308 + 3 * i) g) := by
  intro r
  -- another forest goes one level up
  have up : ∀ (h : jxH) (g : jF) (act : jxH → jxH → Prop), cg_I h G → fo_at h (308 + 3 * d) f → (∀ i, d < i → i < 4 → ∃ g, fo_at h (308 + 3 * i) g) → jf_W g → (∀ h1, cg_I h1 G → fo_at h1 (308 + 3 * (d + 1)) f → Fr (jI (308 + 3 * (d + 1)) 3) h h1 → ∃ h2, act h1 h2 ∧ fo_at h2 (308 + 3 * (d + 1)) g ∧ Fr (jI (308 + 3 * (d + 1)) 3) h1 h2) → ∃ h1 h2 h3, (∀ d', jx_C rc (d' + 1) 225 [.ref (308 + 3 * (d + 1)), .ref (308 + 3 * d)] h = some (none, h1)) ∧ cg_I h1 G ∧ act h1 h2 ∧ (∀ D, jx_C rc (D + m + 11) 270 [.ref 243, .int (Int32.ofNat (d + 1)), .int (Int32.ofNat (d + (m + 1)))] h2 = some (some (.int (jk_b (rch (TT G) m g))), h3)) ∧ cg_I h3 G ∧ Fr (cg_P d) h h3 ∧ (∀ i, d < i → i < 4 → ∃ g, fo_at h3 (308 + 3 * i) g) := fun h g act I K L W2 ha => by
    have d3 : d + 1 < 4 := by omega
    obtain ⟨g0, K0⟩ := L (d + 1) (by omega) d3
    obtain ⟨h1, v1, v2, v3⟩ := fo_follow (rc := rc) K0 K (Or.inr (by omega))
    have I1 := cg_fr v3 (fun x hx w => by unfold jI at w; omega) I
    obtain ⟨h2, w1, w2, w3⟩ := ha h1 I1 v2 v3
    have I2 := cg_fr w3 (fun x hx w => by unfold jI at w; omega) I1
    have F2 := v3.trans w3
    have L2 : ∀ i, d + 1 < i → i < 4 → ∃ g, fo_at h2 (308 + 3 * i) g := fun i h1 h2 => by
      obtain ⟨g, q⟩ := L i (by omega) h2
      exact ⟨g, fo_fr F2 (fun x a b z => by unfold jI at z; omega) q⟩
    obtain ⟨h3, x1, x2, x3, x4⟩ := ih (d + 1) g h2 (by omega) W2 I2 w2 L2
    refine ⟨h1, h2, h3, v1, I1, w1, fun D => ?_, x2, (F2.mono fun x hx => by unfold jI at hx; unfold cg_P; omega).trans (x3.mono fun x hx => by unfold cg_P at *; omega), fun i i1 i2 => ?_⟩
    · have := x1 D
      rw [show d + 1 + m = d + (m + 1) by omega] at this
      exact this
    · by_cases z : i = d + 1
      · subst z; exact ⟨g, cg_lvl x3 w2 d3⟩
      · exact x4 i (by omega) i2
  induction r with
  | zero =>
    intro k h e I K L
    obtain rfl : k = 12 := by omega
    obtain ⟨h1, h2, h3, a1, a2, a3, a4, a5, a6, a7⟩ := up h (jf_mirror f) (fun h1 h2 => ∀ d', jx_C rc (d' + 1) 239 [.ref (308 + 3 * (d + 1))] h1 = some (none, h2)) I K L (jf_W_mirror W) (fun h1 I1 K1 F1 => by
      obtain ⟨h2, w1, w2, w3⟩ := fo_mirror (rc := rc) K1
      exact ⟨h2, w1, w2, w3⟩)
    refine ⟨h3, fun D => ?_, a5, a6, a7⟩
    rw [je_270_44, if_pos (by decide), a1, jk_cV, a3, jk_cV, jk_succ, a4, jk_cI, if_pos (jk_bbl _)]
    rw [if_neg (show ¬ rch_l (rch (TT G) m) f 0 12 = true by unfold rch_l; decide)]
  | succ r ihr =>
    intro k h e I K L
    have hk : k < 12 := by omega
    have e0 : rch_l (rch (TT G) m) f (r + 1) k = (match dg_n f k with
      | some g => if rch (TT G) m g = true then true else rch_l (rch (TT G) m) f r (k + 1)
      | none => rch_l (rch (TT G) m) f r (k + 1)) := rfl
    by_cases c1 : bt f.2.2 k = true
    · obtain ⟨m0, sg0, s0⟩ := id I.2.2.2.2
      obtain ⟨h1, t1, t2, t3⟩ := st_shrink (rc := rc) hr s0 K W.1 (by omega) hk
      have I1 := cg_st t3 I t2
      have F1 : Fr (cg_P d) h h1 := t3.mono fun x q => by unfold cg_P; omega
      have L1 : ∀ i, d < i → i < 4 → ∃ g, fo_at h1 (308 + 3 * i) g := fun i h1 h2 => by obtain ⟨g, q⟩ := L i h1 h2; exact ⟨g, fo_fr t3 (fun x a b => by omega) q⟩
      have K1 := cg_lvl F1 K (by omega)
      by_cases c2 : jf_ref f false (jn_sk f k, Int32.ofNat k, 0, 0, 0) = 0
      · have hn : dg_n f k = some (jf_act f (jn_sk f k, Int32.ofNat k, 0, 0, 0)) := by unfold dg_n; rw [if_pos ⟨c1, c2⟩]
        obtain ⟨W2, -⟩ := dg_n_W W hk hn
        obtain ⟨h2, h3, h4, a1, a2, a3, a4, a5, a6, a7⟩ := up h1 _ (fun h1 h2 => ∀ d', jx_C rc (d' + 4) 290 [.ref 245, .ref (308 + 3 * (d + 1))] h1 = some (none, h2)) I1 K1 L1 W2 (fun h2 I2 K2 F2 => by
          obtain ⟨h3, w1, w2, w3⟩ := st_act (rc := rc) (st_fr F2 (fun w => by unfold jI at w; omega) t2) K2 W.1 (Or.inl (by omega)) c2
          exact ⟨h3, w1, w2, w3⟩)
        have st : ∀ D, jb_270 rc (D + m + 11) 44 [(0, .ref 243), (1, .int (Int32.ofNat d)), (2, .int (Int32.ofNat (d + (m + 1)))), (3, .ref (308 + 3 * d)), (5, .ref (308 + 3 * (d + 1))), (6, .int (Int32.ofNat k))] [] h = _ := fun D => by
          rw [je_270_44, if_neg (jk_n12 hk), fo_has K, jk_cI, jk_if0, jF_has_of hk, if_pos c1, I.2.2.1, jk_bs, t1, jk_cI, jk_if0, if_pos (decide_eq_true c2), a1, jk_cV, a2.2.2.1, jk_bs, a3, jk_cV, jk_succ, a4, jk_cI, jk_if0]
        by_cases y : rch (TT G) m (jf_act f (jn_sk f k, Int32.ofNat k, 0, 0, 0)) = true
        · have e1 : rch_l (rch (TT G) m) f (r + 1) k = true := by rw [e0, hn]; exact if_pos y
          refine ⟨h4, fun D => ?_, a5, F1.trans a6, a7⟩
          rw [st, if_pos y, if_pos jk_b1, if_pos e1]
          rfl
        · have e1 : rch_l (rch (TT G) m) f (r + 1) k = rch_l (rch (TT G) m) f r (k + 1) := by rw [e0, hn]; exact if_neg y
          obtain ⟨h5, u1, u2, u3, u4⟩ := ihr (k + 1) h4 (by omega) a5 (cg_lvl a6 K1 (by omega)) a7
          refine ⟨h5, fun D => ?_, u2, F1.trans (a6.trans u3), u4⟩
          rw [st, if_neg y, jk_succ, e1]
          exact u1 D
      · have e1 : rch_l (rch (TT G) m) f (r + 1) k = rch_l (rch (TT G) m) f r (k + 1) := by rw [e0, show dg_n f k = none by unfold dg_n; rw [if_neg (fun z => c2 z.2)]]
        obtain ⟨h5, u1, u2, u3, u4⟩ := ihr (k + 1) h1 (by omega) I1 K1 L1
        refine ⟨h5, fun D => ?_, u2, F1.trans u3, u4⟩
        rw [je_270_44, if_neg (jk_n12 hk), fo_has K, jk_cI, jk_if0, jF_has_of hk, if_pos c1, I.2.2.1, jk_bs, t1, jk_cI, jk_if0, if_neg (fun z => c2 (of_decide_eq_true z)), jk_succ, e1]
        exact u1 D
    · have e1 : rch_l (rch (TT G) m) f (r + 1) k = rch_l (rch (TT G) m) f r (k + 1) := by rw [e0, show dg_n f k = none by unfold dg_n; rw [if_neg (fun z => c1 z.1)]]
      obtain ⟨h5, u1, u2, u3, u4⟩ := ihr (k + 1) h (by omega) I K L
      refine ⟨h5, fun D => ?_, u2, u3, u4⟩
      rw [je_270_44, if_neg (jk_n12 hk), fo_has K, jk_cI, jk_if0, jF_has_of hk, if_neg c1, jk_succ, e1]
      exact u1 D
theorem cg_climb (hr : jk_rom rc) (V : jf_W G) : ∀ m, cg_D rc G m := by
  intro m
  -- what stands ahead of the search
  have pre : ∀ (m d : Nat) (f : jF) (h : jxH) (D : Nat), d + m ≤ 3 → jf_W f → cg_I h G → fo_at h (308 + 3 * d) f → ¬ (bc G.2.2 ≤ bc f.2.2 ∧ bc f.2.2 ≤ bc G.2.2 + 2 * m) → jx_C rc (D + m + 11) 270 [.ref 243, .int (Int32.ofNat d), .int (Int32.ofNat (d + m))] h = some (some (.int (jk_b (rch (TT G) m f))), h) := fun m d f h D hd W I K c => by
    have b1 := bc_le f.2.2
    have b2 := bc_le G.2.2
    have rf : rch (TT G) m f = false := by
      cases w : rch (TT G) m f
      · rfl
      · exact absurd (rch_size V m f W w) c
    rw [rf, je_270, cg_level I (by omega), jk_cRs, jk_mos, fo_size K W.1.s, jk_cI, sg_g5 I.1.1, jk_bs]
    by_cases c1 : bc f.2.2 < bc G.2.2
    · rw [if_pos (by rw [show (0 : Int32) = Int32.ofNat 0 from rfl, jk_sublt (by omega) (by omega) (by omega)]; omega), if_pos jk_r0']
      rfl
    · rw [if_neg (by rw [show (0 : Int32) = Int32.ofNat 0 from rfl, jk_sublt (by omega) (by omega) (by omega)]; omega), jk_subN (by omega), jk_subN (by omega), show (2 : Int32) = Int32.ofNat 2 from rfl, ← Int32.ofNat_mul, if_neg (by rw [jk_le (by omega) (by omega)]; omega), if_pos jk_r0']
      rfl
  have go : ∀ (m d : Nat) (f : jF) (h : jxH) (D : Nat), d + m ≤ 3 → jf_W f → cg_I h G → fo_at h (308 + 3 * d) f → (bc G.2.2 ≤ bc f.2.2 ∧ bc f.2.2 ≤ bc G.2.2 + 2 * m) → jx_C rc (D + m + 11) 270 [.ref 243, .int (Int32.ofNat d), .int (Int32.ofNat (d + m))] h = (if Int32.ofNat d < Int32.ofNat (d + m) then
          jx_cR (jx_C rc (D + m + 10) 263 [.ref 243, .int (Int32.ofNat d + (1 : Int32))] h) fun o8 h7 =>
          jx_mo o8 (fun b9 => jb_270 rc (D + m + 10) 44 [(0, .ref 243), (1, .int (Int32.ofNat d)), (2, .int (Int32.ofNat (d + m))), (3, .ref (308 + 3 * d)), (5, .ref b9), (6, .int (0 : Int32))] [] h7)
          (if jx_bool (0 : Int32) = true then some (some (.int (0 : Int32)), h7) else none)
        else
          jx_cI (jx_C rc (D + m + 10) 269 [.ref 243, .ref (308 + 3 * d)] h) fun v11 h10 =>
          if jx_bool v11 = true then some (some (.int v11), h10) else none) := fun m d f h D hd W I K c => by
    have b1 := bc_le f.2.2
    have b2 := bc_le G.2.2
    rw [je_270, cg_level I (by omega), jk_cRs, jk_mos, fo_size K W.1.s, jk_cI, sg_g5 I.1.1, jk_bs]
    rw [if_neg (by rw [show (0 : Int32) = Int32.ofNat 0 from rfl, jk_sublt (by omega) (by omega) (by omega)]; omega), jk_subN (by omega), jk_subN (by omega), show (2 : Int32) = Int32.ofNat 2 from rfl, ← Int32.ofNat_mul, if_pos (by rw [jk_le (by omega) (by omega)]; omega)]
  induction m with
  | zero =>
    intro d f h hd W I K L
    by_cases c : bc G.2.2 ≤ bc f.2.2 ∧ bc f.2.2 ≤ bc G.2.2 + 2 * 0
    · obtain ⟨h1, s1, s2, s3⟩ := cc_goal (rc := rc) W V I.1 K (by omega)
      have F1 : Fr (cg_P d) h h1 := s3.mono fun x hx => by unfold jSp at hx; unfold cg_P; omega
      obtain ⟨I0, g0, g1, ⟨Q, q1, q2⟩, mm, sg, s⟩ := id I
      have n : ∀ x, (x < 249 ∨ 306 ≤ x) → ¬ jSp 249 304 x := fun x hx w => by unfold jSp at w; omega
      refine ⟨h1, fun D => ?_, ⟨s2, by rw [s3.2.2 _ (n _ (by omega))]; exact g0, by rw [s3.2.2 _ (n _ (by omega))]; exact g1, ⟨Q, (s3.2.2 _ (n _ (by omega))).trans q1, q2⟩, mm, sg, st_fr s3 (n _ (by omega)) s⟩, F1, fun i i1 i2 => ?_⟩
      · rw [go 0 d f h D hd W I K c, if_neg (by rw [jk_lt (by omega) (by omega)]; omega), s1 (D + 3), jk_cI]
        unfold rch
        by_cases z : TT f = TT G
        · rw [if_pos z, if_pos z, if_pos jk_b1]; rfl
        · rw [if_neg z, if_neg z, if_pos jk_r0']; rfl
      · obtain ⟨g, q⟩ := L i i1 i2
        exact ⟨g, fo_fr s3 (fun x a b => n x (by omega)) q⟩
    · exact ⟨h, fun D => pre 0 d f h D hd W I K c, I, Fr.rfl, L⟩
  | succ m ih =>
    intro d f h hd W I K L
    by_cases c : bc G.2.2 ≤ bc f.2.2 ∧ bc f.2.2 ≤ bc G.2.2 + 2 * (m + 1)
    · obtain ⟨h1, r1, r2, r3, r4⟩ := cg_loop (rc := rc) hr ih hd W 12 0 h (by omega) I K L
      refine ⟨h1, fun D => ?_, r2, r3, r4⟩
      rw [go (m + 1) d f h D hd W I K c, if_pos (by rw [jk_lt (by omega) (by omega)]; omega), jk_succ, cg_level I (by omega), jk_cRs, jk_mos]
      exact r1 D
    · exact ⟨h, fun D => pre (m + 1) d f h D hd W I K c, I, Fr.rfl, L⟩
end
