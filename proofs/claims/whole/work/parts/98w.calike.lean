/-! ALIKE: the class: print, aim, isGoal -/
theorem lx_self : ∀ T : List Nat, lx T T = false
  | [] => rfl
  | a :: s => by
    unfold lx
    rw [if_pos rfl]
    exact lx_self s
theorem lx_anti : ∀ {T U : List Nat}, lx T U = false → lx U T = false → T = U
  | [], [], h1, h2 => rfl
  | [], _ :: _, h1, h2 => by cases h1
  | _ :: _, [], h1, h2 => by cases h2
  | a :: s, b :: t, h1, h2 => by
    unfold lx at h1 h2
    by_cases c : a = b
    · subst c
      rw [if_pos rfl] at h1 h2
      rw [lx_anti h1 h2]
    · rw [if_neg c] at h1
      rw [if_neg (fun z => c z.symm)] at h2
      simp at h1 h2
      omega
def sg_O (h : jxH) (G : jF) : Prop := ∃ i3 i4 i5 : Int32, jx_at h 243 = jxO 3 [.ref 244, .ref 245, .ref 249, .ref 304, .ref 306, .int (Int32.ofNat (bc G.2.2)), .int (jF_print G), .int i3, .int i4, .int i5]
def sg_I (h : jxH) (G : jF) : Prop := sg_O h G ∧ tx_at h 306 (TT G) ∧ sp_ok h 249 ∧ tx_ok h 304
noncomputable def op_alike (σ : jSt) (k : Int32) : Int32 × jSt := if jp_four k = true then (match σ.2.2.1 (pn k) with
  | some g => (if TT (sF σ) = TT g then 1 else 0, σ)
  | none => er σ 7) else er σ 1
section
variable {rc : Nat → Nat × (Nat → Int32)} {h h' : jxH} {a b : Nat} {f g : jF} {σ : jSt} {P : Nat → Prop}
theorem fo_nearSum_l (H : fo_at h a f) {p : Nat} (hp : p < 12) (d : Nat) : ∀ (m k : Nat), k + m = 12 → jb_247 rc (d + 1) 4 [(0, .ref a), (1, .int (Int32.ofNat p)), (2, .int (jk_sum (fun q => if bt (f.2.1 p) q = true then f.1 q else 0) k)), (3, .int (Int32.ofNat k))] [] h = some (some (.int (jF_ns f p)), h)
  | 0, k, e => by
    obtain rfl : k = 12 := by omega
    rw [je_247_4]; rfl
  | m + 1, k, e => by
    have hk : k < 12 := by omega
    rw [je_247_4, if_neg (jk_n12 hk), fo_areNear H, jk_cI, jk_if0, jF_near_of hp hk, jk_succ]
    by_cases z : bt (f.2.1 p) k = true
    · rw [if_pos z, fo_g0 H, jk_bs, fo_w H hk, jk_bs]
      have := fo_nearSum_l H hp d m (k + 1) (by omega)
      rw [show jk_sum (fun q => if bt (f.2.1 p) q = true then f.1 q else 0) (k + 1) = jk_sum (fun q => if bt (f.2.1 p) q = true then f.1 q else 0) k + f.1 k by show _ + (if _ then _ else _) = _; rw [if_pos z]] at this
      exact this
    · rw [if_neg z]
      have := fo_nearSum_l H hp d m (k + 1) (by omega)
      rw [show jk_sum (fun q => if bt (f.2.1 p) q = true then f.1 q else 0) (k + 1) = jk_sum (fun q => if bt (f.2.1 p) q = true then f.1 q else 0) k + 0 by show _ + (if _ then _ else _) = _; rw [if_neg z]] at this
      exact this
theorem fo_nearSum (H : fo_at h a f) {p : Nat} (hp : p < 12) (d : Nat) : jx_C rc (d + 2) 247 [.ref a, .int (Int32.ofNat p)] h = some (some (.int (jF_ns f p)), h) := by
  rw [je_247, if_pos (fo_is H)]
  exact fo_nearSum_l H hp d 12 0 rfl
theorem fo_print_l (H : fo_at h a f) (hn : ∀ k, k < 12 → S12 (f.2.1 k)) (d : Nat) : ∀ (m k : Nat), k + m = 12 → jb_246 rc (d + 2) 4 [(0, .ref a), (1, .int (jk_sum (fun p => if bt f.2.2 p = true then jF_own f p else 0) k)), (2, .int (Int32.ofNat k))] [] h = some (some (.int (jF_print f)), h)
  | 0, k, e => by
    obtain rfl : k = 12 := by omega
    rw [je_246_4]; rfl
  | m + 1, k, e => by
    have hk : k < 12 := by omega
    have ih := fo_print_l H hn d m (k + 1) (by omega)
    rw [je_246_4, if_neg (jk_n12 hk), fo_has H, jk_cI, jk_if0, jF_has_of hk, jk_succ]
    by_cases z : bt f.2.2 k = true
    · rw [if_pos z, fo_g0 H, jk_bs, fo_w H hk, jk_bs, fo_degree H hn, jk_cI, fo_nearSum H hk, jk_cI, jF_n_of hk]
      rw [show jk_sum (fun p => if bt f.2.2 p = true then jF_own f p else 0) (k + 1) = jk_sum (fun p => if bt f.2.2 p = true then jF_own f p else 0) k + jF_own f k by show _ + (if _ then _ else _) = _; rw [if_pos z]] at ih
      exact ih
    · rw [if_neg z]
      rw [show jk_sum (fun p => if bt f.2.2 p = true then jF_own f p else 0) (k + 1) = jk_sum (fun p => if bt f.2.2 p = true then jF_own f p else 0) k by show _ + (if _ then _ else _) = _; rw [if_neg z]; exact Int32.add_zero _] at ih
      exact ih
theorem fo_print (H : fo_at h a f) (hn : ∀ k, k < 12 → S12 (f.2.1 k)) (d : Nat) : jx_C rc (d + 3) 246 [.ref a] h = some (some (.int (jF_print f)), h) := by
  rw [je_246, if_pos (fo_is H)]
  exact fo_print_l H hn d 12 0 rfl
theorem sg_is (O : sg_O h g) : jx_is (jx_at h 243) 3 = true := by obtain ⟨i3, i4, i5, o⟩ := O; rw [o]; rfl
theorem sg_g2 (O : sg_O h g) : jx_gR (jx_at h 243) 3 2 = some 249 := by obtain ⟨i3, i4, i5, o⟩ := O; rw [o]; rfl
theorem sg_g3 (O : sg_O h g) : jx_gR (jx_at h 243) 3 3 = some 304 := by obtain ⟨i3, i4, i5, o⟩ := O; rw [o]; rfl
theorem sg_g4 (O : sg_O h g) : jx_gR (jx_at h 243) 3 4 = some 306 := by obtain ⟨i3, i4, i5, o⟩ := O; rw [o]; rfl
theorem sg_g5 (O : sg_O h g) : jx_gI (jx_at h 243) 3 5 = some (Int32.ofNat (bc g.2.2)) := by obtain ⟨i3, i4, i5, o⟩ := O; rw [o]; rfl
theorem sg_g6 (O : sg_O h g) : jx_gI (jx_at h 243) 3 6 = some (jF_print g) := by obtain ⟨i3, i4, i5, o⟩ := O; rw [o]; rfl
theorem sg_O_fr (F : Fr P h h') (h1 : ¬ P 243) (O : sg_O h g) : sg_O h' g := by
  obtain ⟨i3, i4, i5, o⟩ := O
  exact ⟨i3, i4, i5, (F.2.2 _ h1).trans o⟩
theorem sg_I_fr (F : Fr P h h') (hP : ∀ x, (x = 243 ∨ (249 ≤ x ∧ x < 308)) → ¬ P x) (I : sg_I h g) : sg_I h' g := by
  obtain ⟨O, T, S, K⟩ := I
  exact ⟨sg_O_fr F (hP _ (by omega)) O, tx_at_fr F (fun x x1 x2 => hP x (by omega)) T, sp_fr F (fun x x1 x2 => hP x (by omega)) S, tx_fr F (fun x x1 x2 => hP x (by omega)) K⟩
/-- aim() -/
theorem cc_aim (W : jf_W g) (E : se_ok h 243) (G : fo_at h b g) (hb : b + 3 ≤ 243 ∨ 320 ≤ b) : ∃ h', (∀ D, jx_C rc (D + 7) 268 [.ref 243, .ref b] h = some (none, h')) ∧ sg_I h' g ∧ Fr (fun x => x = 243 ∨ (249 ≤ x ∧ x < 308)) h h' := by
  obtain ⟨⟨i1, i2, i3, i4, i5, o⟩, -, -, p, t1, t2, -⟩ := id E
  have F1 : Fr (fun x => x = 243) h (jx_set h 243 (jxO 3 [.ref 244, .ref 245, .ref 249, .ref 304, .ref 306, .int (Int32.ofNat (bc g.2.2)), .int i2, .int i3, .int i4, .int i5])) := Fr.one
  have F2 : Fr (fun x => x = 243) (jx_set h 243 (jxO 3 [.ref 244, .ref 245, .ref 249, .ref 304, .ref 306, .int (Int32.ofNat (bc g.2.2)), .int i2, .int i3, .int i4, .int i5])) (jx_set (jx_set h 243 (jxO 3 [.ref 244, .ref 245, .ref 249, .ref 304, .ref 306, .int (Int32.ofNat (bc g.2.2)), .int i2, .int i3, .int i4, .int i5])) 243 (jxO 3 [.ref 244, .ref 245, .ref 249, .ref 304, .ref 306, .int (Int32.ofNat (bc g.2.2)), .int (jF_print g), .int i3, .int i4, .int i5])) := Fr.one
  have G1 := fo_fr F1 (by omega) G
  have F12 := F1.trans F2
  have G2 := fo_fr F2 (by omega) G1
  obtain ⟨h3, s1, s2, s3, s4⟩ := cc_spell (rc := rc) (a := 249) (a2 := 306) W (by omega) (by omega) (by omega) (sp_fr F12 (by omega) p) G2 (tx_fr F12 (by omega) t2)
  have n : ∀ x, (x < 249 ∨ (304 ≤ x ∧ x < 306) ∨ 308 ≤ x) → ¬ jSp 249 306 x := fun x hx w => by unfold jSp at w; omega
  have O2 : sg_O (jx_set (jx_set h 243 (jxO 3 [.ref 244, .ref 245, .ref 249, .ref 304, .ref 306, .int (Int32.ofNat (bc g.2.2)), .int i2, .int i3, .int i4, .int i5])) 243 (jxO 3 [.ref 244, .ref 245, .ref 249, .ref 304, .ref 306, .int (Int32.ofNat (bc g.2.2)), .int (jF_print g), .int i3, .int i4, .int i5])) g := ⟨i3, i4, i5, jk_at_self ..⟩
  refine ⟨h3, fun D => ?_, ⟨sg_O_fr s4 (n _ (by omega)) O2, s3, s2, tx_fr s4 (fun x x1 x2 => n x (by omega)) (tx_fr F12 (by omega) t1)⟩, (F12.mono fun x hx => Or.inl hx).trans (s4.mono fun x hx => by unfold jSp at hx; omega)⟩
  have is3 : jx_is (jx_at h 243) 3 = true := by rw [o]; rfl
  rw [je_268, if_pos is3, fo_size G W.1.s, jk_cI, o, show jx_pF (jxO 3 [.ref 244, .ref 245, .ref 249, .ref 304, .ref 306, .int i1, .int i2, .int i3, .int i4, .int i5]) 3 5 (.int (Int32.ofNat (bc g.2.2))) = some (jxO 3 [.ref 244, .ref 245, .ref 249, .ref 304, .ref 306, .int (Int32.ofNat (bc g.2.2)), .int i2, .int i3, .int i4, .int i5]) from rfl, jk_bs, fo_print G1 W.1.n, jk_cI, jk_at_self, show jx_pF (jxO 3 [.ref 244, .ref 245, .ref 249, .ref 304, .ref 306, .int (Int32.ofNat (bc g.2.2)), .int i2, .int i3, .int i4, .int i5]) 3 6 (.int (jF_print g)) = some (jxO 3 [.ref 244, .ref 245, .ref 249, .ref 304, .ref 306, .int (Int32.ofNat (bc g.2.2)), .int (jF_print g), .int i3, .int i4, .int i5]) from rfl, jk_bs, sg_g2 O2, jk_bs, sg_g4 O2, jk_bs, s1, jk_cV]
theorem tx_same {T U : List Nat} (H : tx_at h a T) (K : tx_at h b U) (hT : tx_g T) (hU : tx_g U) (d : Nat) : jx_C rc (d + 3) 310 [.ref a, .ref b] h = some (some (.int (if T = U then 1 else 0)), h) := by
  rw [je_310, if_pos (tx_is H), tx_ahead H K hT hU, jk_cI, jk_if0]
  by_cases c1 : lx T U = true
  · rw [if_pos c1, if_pos jk_r0']
    by_cases z : T = U
    · rw [z, lx_self] at c1; cases c1
    · rw [if_neg z]
  · rw [if_neg c1, tx_ahead K H hU hT, jk_cI, jk_if0]
    by_cases c2 : lx U T = true
    · rw [if_pos c2, if_pos jk_r0']
      by_cases z : T = U
      · rw [z, lx_self] at c2; cases c2
      · rw [if_neg z]
    · rw [if_neg c2, if_pos jk_b1]
      have : T = U := lx_anti (by cases w : lx T U <;> simp_all) (by cases w : lx U T <;> simp_all)
      rw [if_pos this]
/-- isGoal() -/
theorem cc_goal (W : jf_W f) (V : jf_W g) (I : sg_I h g) (G : fo_at h b f) (hb : b + 3 ≤ 249 ∨ 308 ≤ b) : ∃ h', (∀ D, jx_C rc (D + 7) 269 [.ref 243, .ref b] h = some (some (.int (if TT f = TT g then 1 else 0)), h')) ∧ sg_I h' g ∧ Fr (jSp 249 304) h h' := by
  obtain ⟨O, T, S, K⟩ := id I
  by_cases c1 : bc f.2.2 = bc g.2.2
  · by_cases c2 : jF_print f = jF_print g
    · obtain ⟨h3, s1, s2, s3, s4⟩ := cc_spell (rc := rc) (a := 249) (a2 := 304) W (by omega) (by omega) (by omega) S G K
      have n : ∀ x, (x < 249 ∨ 306 ≤ x) → ¬ jSp 249 304 x := fun x hx w => by unfold jSp at w; omega
      have O3 := sg_O_fr s4 (n _ (by omega)) O
      have T3 := tx_at_fr s4 (fun x x1 x2 => n x (by omega)) T
      refine ⟨h3, fun D => ?_, ⟨O3, T3, s2, tx_okof s3⟩, s4⟩
      have bl : jx_bool (if TT f = TT g then 1 else 0) = true := by split <;> decide
      rw [je_269, if_pos (sg_is O), fo_size G W.1.s, jk_cI, sg_g5 O, jk_bs, if_pos (by rw [c1]), fo_print G W.1.n, jk_cI, sg_g6 O, jk_bs, if_pos c2, sg_g2 O, jk_bs, sg_g3 O, jk_bs, s1, jk_cV, sg_g3 O3, jk_bs, sg_g4 O3, jk_bs, tx_same s3 T3 (TT_g W) (TT_g V), jk_cI, if_pos bl]
    · refine ⟨h, fun D => ?_, I, Fr.rfl⟩
      rw [if_neg (fun z => c2 (TT_same W V z).2)]
      rw [je_269, if_pos (sg_is O), fo_size G W.1.s, jk_cI, sg_g5 O, jk_bs, if_pos (by rw [c1]), fo_print G W.1.n, jk_cI, sg_g6 O, jk_bs, if_neg c2, if_pos jk_r0']
  · refine ⟨h, fun D => ?_, I, Fr.rfl⟩
    have b1 := bc_le f.2.2
    have b2 := bc_le g.2.2
    rw [if_neg (fun z => c1 (TT_same W V z).1)]
    rw [je_269, if_pos (sg_is O), fo_size G W.1.s, jk_cI, sg_g5 O, jk_bs, if_neg (by rw [jk_inj (by omega) (by omega)]; exact c1), if_pos jk_r0']
theorem cc_se2 (C : CSt h σ) (A : AWt σ) (F : Fr (fun x => 243 ≤ x ∧ x < 320) h h') (E : se_ok h' 243) : CSt h' σ ∧ cF h h' := by
  refine ⟨CS_scr A.tr.2.1 C F (fun x q => Or.inr ⟨by omega, by omega⟩) ?_, cF.of F (fun x q => by omega)⟩
  obtain ⟨⟨f, g⟩, s, w, r, p, t, e⟩ := C.scr
  exact ⟨⟨f, fo_fr F (fun x a b => by omega) g⟩, sk_fr F (fun x a b => by omega) s, wk_fr F (fun x a b => by omega) w, rk_fr F (fun x a b => by omega) r, sp_fr F (fun x a b => by omega) p, tx_fr F (fun x a b => by omega) t, E⟩
/-- the search stays well formed -/
theorem se_keep (E : se_ok h 243) (F : Fr (fun x => x = 243 ∨ (249 ≤ x ∧ x < 308)) h h') (I : sg_I h' g) : se_ok h' 243 := by
  obtain ⟨-, ⟨Q, q1, q2⟩, ⟨sm, sf⟩, -, -, -, fs⟩ := E
  obtain ⟨⟨i3, i4, i5, o⟩, T, S, K⟩ := I
  obtain ⟨m, sg, st⟩ := sm
  obtain ⟨f, ff⟩ := sf
  exact ⟨⟨_, _, _, _, _, o⟩, ⟨Q, (F.2.2 _ (by omega)).trans q1, q2⟩, ⟨⟨m, sg, st_fr F (by omega) st⟩, f, fo_fr F (by omega) ff⟩, S, K, tx_okof T, fun i hi => by
    obtain ⟨f, q⟩ := fs i hi
    exact ⟨f, fo_fr F (by omega) q⟩⟩
theorem cc_alike (C : CSt h σ) (A : AWt σ) (k : Int32) : ∃ h', (∀ d, jx_C rc (d + 20) 31 [.ref 0, .int k] h = some (some (.int (op_alike σ k).1), h')) ∧ CSt h' (op_alike σ k).2 ∧ cF h h' := by
  unfold op_alike
  obtain ⟨e', e1, e2, e3⟩ := cc_refuse (rc := rc) C A (k := 1) (by decide) (by decide) (K := 1) rfl
  by_cases c0 : jp_four k = true
  · rw [if_pos c0]
    obtain ⟨j, hj, rfl⟩ := jp_four_iff.mp c0
    rw [pn_4 hj]
    obtain ⟨Q, R, q, r, n, a1, -⟩ := C.dyn
    have st : ∀ d, jx_C rc (d + 20) 31 [.ref 0, .int (Int32.ofNat j)] h = _ := fun d => by
      rw [je_31, if_pos C.is, if_neg (jk_nn (by omega)), if_pos (by rw [show (4 : Int32) = Int32.ofNat 4 from rfl, jk_lt (by omega) (by decide)]; exact hj), C.g11, jk_bs, q, jk_aQ hj (by decide), jk_bs]
    rcases a1 j hj with ⟨b1, b2⟩ | ⟨f, b, b1, b2, b3, b4, b5⟩
    · rw [b1]
      obtain ⟨f', f1, f2, f3⟩ := cc_refuse (rc := rc) C A (k := 7) (by decide) (by decide) (K := 7) rfl
      refine ⟨f', fun d => ?_, f2, f3⟩
      rw [st d, b2, jk_mon, f1, jk_cI]
    · rw [b1]
      have V := A.2.1 j f hj b1
      have E := C.scr.2.2.2.2.2.2
      obtain ⟨h1, s1, s2, s3⟩ := cc_aim (rc := rc) V E b5 (by omega)
      have E1 := se_keep E s3 s2
      obtain ⟨C1, F1⟩ := cc_se2 C A (s3.mono fun x hx => by omega) E1
      obtain ⟨h2, t1, t2, t3⟩ := cc_goal (rc := rc) A.W V s2 C1.F (by omega)
      have F3 : Fr (fun x => x = 243 ∨ (249 ≤ x ∧ x < 308)) h1 h2 := t3.mono fun x hx => by unfold jSp at hx; omega
      obtain ⟨C2, F2⟩ := cc_se2 C1 A (F3.mono fun x hx => by omega) (se_keep E1 F3 t2)
      refine ⟨h2, fun d => ?_, C2, F1.trans0 ⟨s3.1, s3.2.1⟩ F2⟩
      rw [st d, b2, jk_mos, C.g9, jk_bs, s1, jk_cV, C1.g9, jk_bs, C1.g1, jk_bs, t1, jk_cI]
      by_cases z : TT (sF σ) = TT f
      · rw [if_pos z, if_neg (by decide)]
        show _ = some (some (Value.int (if TT (sF σ) = TT f then 1 else 0)), _)
        rw [if_pos z]
      · rw [if_neg z, if_pos rfl]
        show _ = some (some (Value.int (if TT (sF σ) = TT f then 1 else 0)), _)
        rw [if_neg z]
  · rw [if_neg c0]
    refine ⟨e', fun d => ?_, e2, e3⟩
    unfold jp_four at c0
    rw [je_31, if_pos C.is]
    by_cases c1 : k < 0
    · rw [if_pos c1, e1, jk_cI]
    · rw [if_neg c1] at c0 ⊢
      rw [if_neg (fun z => c0 (if_pos z)), e1, jk_cI]
theorem aa_alike (A : AWt σ) (k : Int32) : AWt (op_alike σ k).2 := by
  unfold op_alike
  split
  · split
    · exact A
    · exact aa_er A
  · exact aa_er A
end
