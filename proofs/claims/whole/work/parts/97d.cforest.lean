/-! forest(): the class's call -/
def op_forest (σ : jSt) : Int32 × jSt := match ty_run (sP σ) 122 (ty_s (sP σ) 0) [] jf_0 with
  | .inl k => ((-10 : Int32) - Int32.ofNat k, setP σ (0, (sP σ).2))
  | .inr f => (Int32.ofNat (bc f.2.2), hand (setP σ (0, (sP σ).2)) f)
theorem ty_run_lt {p : jP} (W : p_W p) : ∀ {m i : Nat} {st : List Nat} {f : jF} {k : Nat}, i ≤ p.1 → ty_run p m i st f = .inl k → k ≤ p.1
  | 0, i, st, f, k, l, e => by cases e; exact l
  | m + 1, i, st, f, k, l, e => by
    unfold ty_run at e
    split at e
    · rename_i c
      have li := ty_s_le (p := p) (i := i + 1) (by omega)
      split at e
      · cases e; exact l
      · split at e
        · cases e; exact li.2
        · rename_i z w hw
          exact ty_run_lt W (ty_s_le (ty_w_some W hw).2.2.1).2 e
    · split at e
      · rename_i c
        have li := ty_s_le (p := p) (i := i + 1) (by omega)
        split at e
        · cases e; exact l
        · split at e
          · cases e
          · exact ty_run_lt W li.2 e
      · cases e; exact l
theorem ty_run_W {p : jP} (W : p_W p) : ∀ {m i : Nat} {st : List Nat} {f g : jF} {hd : Nat → Int32}, jf_W f → ty_S hd f st → ty_run p m i st f = .inr g → jf_W g
  | 0, i, st, f, g, hd, Wf, S, e => by cases e
  | m + 1, i, st, f, g, hd, Wf, S, e => by
    have b12 := bc_le f.2.2
    unfold ty_run at e
    split at e
    · split at e
      · cases e
      · rename_i c12
        split at e
        · cases e
        · rename_i z w hw
          obtain ⟨W2, b2, c1, hc, c2⟩ := ty_f_W Wf S (by omega) (ty_w_some W hw).2.2.2
          refine ty_run_W W (st := jf_free f :: st) (hd := upd hd (jf_free f) (jk_on st.head?)) W2 ⟨c1, ?_, upd_at _ _ _, ty_S_push c1 c2 (ty_f_set f st w) S⟩ e
          rw [ty_f_set, bt_set _ c1 c1]; simp
    · split at e
      · split at e
        · cases e
        · split at e
          · cases e; exact Wf
          · exact ty_run_W W Wf S.2.2.2 e
      · cases e
section
variable {rc : Nat → Nat × (Nat → Int32)} {h h' : jxH} {σ : jSt} {p : jP} {P : Nat → Prop}
theorem tp_read (W : p_W p) (H : tp_at h p) (G : ∃ f, fo_at h 5 f) : ∃ h', (∀ d, jx_C rc (d + 6) 297 [.ref 320, .ref 5] h = some (some (.int (ty_ans (ty_run p 122 (ty_s p 0) [] jf_0))), h')) ∧ Fr ty_P h h' ∧ tp_at h' p ∧ (∃ g, fo_at h' 5 g) ∧ ∀ g, ty_run p 122 (ty_s p 0) [] jf_0 = .inr g → fo_at h' 5 g ∧ jf_W g := by
  obtain ⟨f0, G0⟩ := G
  have hp := W.1
  obtain ⟨h1, r1, r2, r3⟩ := fo_clear (rc := rc) G0
  obtain ⟨o, t1, hd, t2⟩ := id H
  have F1 : Fr ty_P h h1 := r3.mono fun x z => Or.inl ⟨z.1, by have := z.2; omega⟩
  have Hd1 : jx_at h1 322 = jxI 0 12 hd := (r3.2.2 _ (fun z => by have := z.2; omega)).trans t2
  have H1 := tp_fr2 F1 Hd1 H
  have l := ty_s_le (p := p) (i := 0) (by omega)
  obtain ⟨h2, u1, u2, ⟨hd2, u3⟩, u4, u5⟩ := tp_run (rc := rc) W 122 (ty_s p 0) 0 [] jf_0 h1 hd (by omega) l.2 (by omega) (ty_s_s _) H1 Hd1 r2 jf_W_0 trivial (Or.inr (Or.inr (by decide)))
  refine ⟨h2, fun d => ?_, F1.trans u2, tp_fr2 (F1.trans u2) u3 H, u4, u5⟩
  rw [je_297, if_pos (tp_is H), r1, jk_cV, show (0 : Int32) = Int32.ofNat 0 from rfl, tp_skip H1 hp (by omega), jk_cI]
  exact u1 d
theorem cc_rd {p' : jP} (C : CSt h σ) (A : AWt σ) (F : Fr (fun x => (5 ≤ x ∧ x < 8) ∨ (320 ≤ x ∧ x < 323)) h h') (G : ∃ g, fo_at h' 5 g) (S : tp_at h' p') : CSt h' (setP σ p') ∧ cF h h' := by
  refine ⟨?_, cF.of F (fun x q => by omega)⟩
  have n : ∀ x, ¬ ((5 ≤ x ∧ x < 8) ∨ (320 ≤ x ∧ x < 323)) → ¬ ((5 ≤ x ∧ x < 8) ∨ (320 ≤ x ∧ x < 323)) := fun x a => a
  obtain ⟨h1, h2, h3, h4, h5, h6, h7, h8⟩ := C
  obtain ⟨-, s, w, r, q, t, e⟩ := h8
  exact ⟨told_fr F (n _ (by omega)) h1, fo_fr F (fun x a b => n x (by omega)) h2, tr_fr F (fun x a b => n x (by omega)) A.tr.2.1 h3, dyn_fr F (n _ (by omega)) (n _ (by omega)) (fun x a => n x (by omega)) h4, cr_fr F (fun x a b => n x (by omega)) h5, im_fr F (n _ (by omega)) (fun x a b => n x (by omega)) h6, S, G, sk_fr F (fun x a b => n x (by omega)) s, wk_fr F (fun x a b => n x (by omega)) w, rk_fr F (fun x a b => n x (by omega)) r, sp_fr F (fun x a b => n x (by omega)) q, tx_fr F (fun x a b => n x (by omega)) t, se_fr F (fun x a b => n x (by omega)) e⟩
theorem cc_forest (C : CSt h σ) (A : AWt σ) : ∃ h', (∀ d, jx_C rc (d + 20) 26 [.ref 0] h = some (some (.int (op_forest σ).1), h')) ∧ CSt h' (op_forest σ).2 ∧ cF h h' := by
  obtain ⟨h1, r1, F1, H1, G1, K1⟩ := tp_read (rc := rc) A.tape C.tp C.scr.1
  have o1 : jx_at h1 0 = jx_at h 0 := F1.2.2 0 (by unfold ty_P; omega)
  have F2 : Fr (fun x => x = 320) h1 (jx_set h1 320 (jxO 7 [.ref 321, .ref 322, .int 0])) := Fr.one
  have FA : Fr (fun x => (5 ≤ x ∧ x < 8) ∨ (320 ≤ x ∧ x < 323)) h (jx_set h1 320 (jxO 7 [.ref 321, .ref 322, .int 0])) := (F1.mono fun x q => by unfold ty_P at q; omega).trans (F2.mono fun x q => by omega)
  have S2 : tp_at (jx_set h1 320 (jxO 7 [.ref 321, .ref 322, .int 0])) (0, (sP σ).2) := by
    obtain ⟨o, ⟨g, e, q⟩, g2, e2⟩ := H1
    exact ⟨jk_at_self .., ⟨g, (F2.2.2 _ (by decide)).trans e, fun i hi => absurd hi (Nat.not_lt_zero i)⟩, g2, (F2.2.2 _ (by decide)).trans e2⟩
  have G2 : ∃ g, fo_at (jx_set h1 320 (jxO 7 [.ref 321, .ref 322, .int 0])) 5 g := by
    obtain ⟨g, q⟩ := G1
    exact ⟨g, fo_fr F2 (fun x a b => by omega) q⟩
  obtain ⟨C2, FF⟩ := cc_rd C A FA G2 S2
  have st : ∀ d, jx_C rc (d + 20) 26 [.ref 0] h = _ := fun d => by
    rw [je_26, if_pos C.is, C.g10, jk_bs, C.g2, jk_bs, r1, jk_cI, o1, C.g10, jk_bs, tp_p2 H1, jk_bs]
  unfold op_forest
  have W0 : p_W (0, (sP σ).2) := ⟨Nat.zero_le _, fun i hi => absurd hi (Nat.not_lt_zero i)⟩
  show ∃ h', (∀ d, jx_C rc (d + 20) 26 [.ref 0] h = some (some (.int (match ty_run (sP σ) 122 (ty_s (sP σ) 0) [] jf_0 with
    | .inl k => ((-10 : Int32) - Int32.ofNat k, setP σ (0, (sP σ).2))
    | .inr f => (Int32.ofNat (bc f.2.2), hand (setP σ (0, (sP σ).2)) f)).1), h')) ∧ _
  cases hr : ty_run (sP σ) 122 (ty_s (sP σ) 0) [] jf_0 with
  | inl k =>
    have kl : k < 2 ^ 31 := by have := ty_run_lt A.tape (ty_s_le (Nat.zero_le _)).2 hr; have := A.tape.1; omega
    refine ⟨_, fun d => ?_, C2, FF⟩
    rw [st d, hr, show ty_ans (.inl k) = Int32.ofNat k from rfl, if_neg (jk_nn kl)]
  | inr f =>
    obtain ⟨g1, g2⟩ := K1 f hr
    obtain ⟨h3, s1, s2, s3⟩ := cc_swap (rc := rc) C2 (aa_tape A W0) (fo_fr F2 (fun x a b => by omega) g1) (by omega) g2.1.s
    refine ⟨h3, fun d => ?_, s2, FF.trans0 ⟨FA.1, FA.2.1⟩ s3⟩
    rw [st d, hr, show ty_ans (.inr f) = -1 from rfl, if_pos (by decide), C2.g2, jk_bs, s1, jk_cI]
theorem aa_forest (A : AWt σ) : AWt (op_forest σ).2 := by
  have W0 : p_W (0, (sP σ).2) := ⟨Nat.zero_le _, fun i hi => absurd hi (Nat.not_lt_zero i)⟩
  unfold op_forest
  split
  · exact aa_tape A W0
  · rename_i f e
    exact aa_hand (aa_tape A W0) (ty_run_W (st := []) (hd := fun _ => 0) A.tape jf_W_0 trivial e)
end
