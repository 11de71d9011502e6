/-! forest(): the reference -/
def ty_O (g : Nat → Int32) : List Nat → Prop
  | [] => True
  | c :: st => g st.length = Int32.ofNat c ∧ ty_O g st
theorem ty_O_up {g : Nat → Int32} {n : Nat} {x : Int32} : ∀ {st : List Nat}, st.length ≤ n → ty_O g st → ty_O (upd g n x) st
  | [], _, _ => trivial
  | c :: st, l, h => by
    have l : st.length + 1 ≤ n := l
    exact ⟨by rw [upd_ne _ _ (by omega)]; exact h.1, ty_O_up (by omega) h.2⟩
section
variable {rc : Nat → Nat × (Nat → Int32)} {h h' : jxH} {σ : jSt} {P : Nat → Prop} {f : jF} {st : List Nat}
theorem RSt.g14 (R : RSt h σ) : jx_gR (jx_at h 336) 12 14 = some 399 := R.M.g 14 399 (by intros; rfl)
theorem RSt.g15 (R : RSt h σ) : jx_gR (jx_at h 336) 12 15 = some 400 := R.M.g 15 400 (by intros; rfl)
theorem rr_opens (A : AWt σ) {i : Nat} (li : i ≤ 120) (R : RA h σ i 0) (G : ro_at h 399 f) (W : jf_W f) {hd : Nat → Int32} (S : ty_S hd f st) {g : Nat → Int32} (O : jx_at h 400 = jxI 0 12 g) (Og : ty_O g st) (ls : st.length ≤ bc f.2.2) : ∃ h' r, (∀ d, jx_C rc (d + 4) 159 [.ref 336, .int (Int32.ofNat st.length)] h = some (some (.int r), h')) ∧ rF h h' ∧ (bc f.2.2 = 12 → RA h' σ i 1) ∧ (bc f.2.2 ≠ 12 → match ty_w (sP σ) (ty_s (sP σ) (i + 1)) with
    | none => RA h' σ (ty_s (sP σ) (i + 1)) 1
    | some (z, w) => r = Int32.ofNat (st.length + 1) ∧ RA h' σ (ty_s (sP σ) (i + 1) + z) 0 ∧ ro_at h' 399 (ty_f f st w) ∧ ∃ g', jx_at h' 400 = jxI 0 12 g' ∧ ty_O g' (jf_free f :: st)) := by
  have b12 := bc_le f.2.2
  have st0 : ∀ d, jx_C rc (d + 4) 159 [.ref 336, .int (Int32.ofNat st.length)] h = _ := fun d => by
    rw [je_159, if_pos R.1.is, R.1.g14, jk_bs, ro_0 G, jk_bs, rf_many, jk_cI]
  by_cases c12 : bc f.2.2 = 12
  · obtain ⟨e, s1, s2, s3, s4⟩ := R.1.setWrong A 1
    refine ⟨_, Int32.ofNat st.length, fun d => ?_, rF.one (by decide) (by decide) s4, fun _ => s2 i R.2.1, fun z => absurd c12 z⟩
    rw [st0 d, if_pos (by rw [c12]; rfl), if_pos jk_b1, s1, jk_bs]
  · obtain ⟨e, s1, s2, s3, s4⟩ := R.1.setAt A (i + 1)
    have R1 := s2 0 R.2.2
    obtain ⟨h1, r, r1, r2, r3⟩ := rr_weight (rc := rc) A (by omega) R1
    have st1 : ∀ d, jx_C rc (d + 4) 159 [.ref 336, .int (Int32.ofNat st.length)] h = _ := fun d => by
      rw [st0 d, if_neg (by rw [show (12 : Int32) = Int32.ofNat 12 from rfl, jk_inj (by omega) (by decide)]; exact c12), R.2.1, jk_bs, jk_succ, s1, jk_bs, r1, jk_cI]
    have G1 : ro_at (jx_set h 336 e) 399 f := ro_fr Fr.one (by decide) G
    have FA := s4.trans r3
    have G2 : ro_at h1 399 f := ro_fr FA (by decide) G
    have O2 : jx_at h1 400 = jxI 0 12 g := (FA.2.2 400 (by decide)).trans O
    have FR : rF h h1 := rF.one (by decide) (by decide) FA
    unfold ty_W at r2
    cases hw : ty_w (sP σ) (ty_s (sP σ) (i + 1)) with
    | none =>
      rw [hw] at r2
      obtain ⟨e0, r2⟩ := r2
      refine ⟨h1, Int32.ofNat st.length, fun d => ?_, FR, fun z => absurd z c12, fun _ => r2⟩
      rw [st1 d, r2.2.2, jk_bs, if_neg (by decide)]
    | some q =>
      obtain ⟨z, w⟩ := q
      rw [hw] at r2
      obtain ⟨e0, r2⟩ := r2
      have hw2 := (ty_w_some A.tape hw).2.2.2
      obtain ⟨W2, b2, c1, hc, c2⟩ := ty_f_W W S (by omega) hw2
      obtain ⟨h2, t1, t2, t3⟩ := rf_comes (rc := rc) G2 hc (W.1.abs c1 c2).2 w
      have R2 := r2.read A t3 t2
      have O3 : jx_at h2 400 = jxI 0 12 g := (t3.2.2 400 (by decide)).trans O2
      have st2 : ∀ d, jx_C rc (d + 4) 159 [.ref 336, .int (Int32.ofNat st.length)] h = _ := fun d => by
        rw [st1 d, r2.2.2, jk_bs, if_pos rfl, r2.1.g14, jk_bs, e0, t1, jk_cI]
      -- what waits then
      have last : ∀ {h3 : jxH}, RA h3 σ (ty_s (sP σ) (i + 1) + z) 0 → ro_at h3 399 (ty_f f st w) → jx_at h3 400 = jxI 0 12 g → rF h h3 → ∃ h', jx_sI (jx_at h3 400) 0 (Int32.ofNat st.length) (Int32.ofNat (jf_free f)) = some (jxI 0 12 (upd g st.length (Int32.ofNat (jf_free f)))) ∧ h' = jx_set h3 400 (jxI 0 12 (upd g st.length (Int32.ofNat (jf_free f)))) ∧ rF h h' ∧ RA h' σ (ty_s (sP σ) (i + 1) + z) 0 ∧ ro_at h' 399 (ty_f f st w) ∧ ∃ g', jx_at h' 400 = jxI 0 12 g' ∧ ty_O g' (jf_free f :: st) := fun {h3} Q1 Q2 Q3 Q4 => by
        have Q5 := Q1.opn A (h' := jx_set h3 400 (jxI 0 12 (upd g st.length (Int32.ofNat (jf_free f))))) Fr.one (jk_at_self ..)
        exact ⟨_, by rw [Q3, jk_sI (by omega) (by decide)], rfl, Q4.trans Q5.2, Q5.1, ro_fr Fr.one (by decide) Q2, _, jk_at_self .., upd_at _ _ _, ty_O_up (Nat.le_refl _) Og⟩
      cases st with
      | nil =>
        obtain ⟨h', q1, q2, q3, q4, q5, q6⟩ := last R2.1 t2 O3 (FR.trans R2.2)
        refine ⟨h', _, fun d => ?_, q3, fun z => absurd z c12, fun _ => ⟨rfl, q4, q5, q6⟩⟩
        rw [st2 d, if_pos (by decide), R2.1.1.g15, jk_bs, q1, jk_bs, jk_succ, q2]
      | cons a r =>
        obtain ⟨h3, u1, u2, u3⟩ := rf_ties (rc := rc) t2 S.1 c1
        have R3 := R2.1.read A u3 u2
        have O4 : jx_at h3 400 = jxI 0 12 g := (u3.2.2 400 (by decide)).trans O3
        obtain ⟨h', q1, q2, q3, q4, q5, q6⟩ := last R3.1 u2 O4 ((FR.trans R2.2).trans R3.2)
        refine ⟨h', _, fun d => ?_, q3, fun z => absurd z c12, fun _ => ⟨rfl, q4, q5, q6⟩⟩
        have pos : ¬ Int32.ofNat (a :: r).length ≤ 0 := by rw [jk_le0 (by omega)]; simp
        have ll : (a :: r).length = r.length + 1 := rfl
        rw [st2 d, if_neg pos, R2.1.1.g14, jk_bs, R2.1.1.g15, jk_bs, O3, ll, jk_pred, jk_aI (by omega) (by decide), jk_bs, Og.1, u1, jk_cV, R3.1.1.g15, jk_bs, ← ll, q1, jk_bs, jk_succ, q2]
theorem ty_r_is (p : jP) (i : Nat) {b : Int32} (hb : b ≠ -1) : (ty_r p i = b) ↔ (i < p.1 ∧ p.2 i = b) := by
  unfold ty_r
  by_cases c : i < p.1
  · rw [if_pos c]; simp [c]
  · rw [if_neg c]
    exact ⟨fun z => absurd z.symm hb, fun z => absurd z.1 c⟩
theorem ty_r_ge (W : p_W (sP σ)) (i : Nat) : (0 ≤ ty_r (sP σ) i) ↔ i < (sP σ).1 := by
  unfold ty_r
  by_cases c : i < (sP σ).1
  · rw [if_pos c]
    obtain ⟨b, hb, e⟩ := W.2 i c
    rw [e]
    exact ⟨fun _ => c, fun _ => jk_ge (by omega)⟩
  · rw [if_neg c]
    exact ⟨fun z => absurd z (by decide), fun z => absurd z c⟩
theorem rr_run (A : AWt σ) : ∀ (m a i : Nat) (st : List Nat) (f : jF) (h : jxH) (hd g : Nat → Int32), (sP σ).1 < m + i → a ≤ 130 → ty_s (sP σ) a = i → i ≤ (sP σ).1 → RA h σ a 0 → ro_at h 399 f → jf_W f → ty_S hd f st → jx_at h 400 = jxI 0 12 g → ty_O g st → st.length ≤ bc f.2.2 → ∃ h' b w, (∀ d, jb_160 rc (d + 6) 20 [(0, .ref 336), (1, .int (Int32.ofNat st.length))] [] h = some (none, h')) ∧ RA h' σ b w ∧ rF h h' ∧ (match ty_run (sP σ) m i st f with
    | .inl k => b = k ∧ w = 1
    | .inr g' => w = 0 ∧ ro_at h' 399 g')
  | 0, a, i, st, f, h, hd, g, l, _, _, l2, _, _, _, _, _, _, _ => by omega
  | m + 1, a, i, st, f, h, hd, g, l, la, ea, l2, R, G, W, S, O, Og, ls => by
    have hp := A.tape.1
    have b12 := bc_le f.2.2
    obtain ⟨h1, r1, R1, F1⟩ := rr_here (rc := rc) A (by omega) R
    rw [ea] at r1 R1
    have G1 := ro_fr F1 (by decide) G
    have O1 : jx_at h1 400 = jxI 0 12 g := (F1.2.2 400 (by decide)).trans O
    have FR : rF h h1 := rF.one (by decide) (by decide) F1
    have s0 : ∀ d, jb_160 rc (d + 6) 20 [(0, .ref 336), (1, .int (Int32.ofNat st.length))] [] h = _ := fun d => by
      rw [je_160_20, r1, jk_cI]
    have exit : ∀ {h2 : jxH} {b x} (d : Nat), RA h2 σ b 1 → jb_160 rc d 47 [(0, .ref 336), (1, .int x)] [] h2 = some (none, h2) := fun {h2 b x} d Q => by
      rw [je_160_47, Q.2.2, jk_bs, if_neg (by decide)]
    unfold ty_run
    by_cases c40 : i < (sP σ).1 ∧ (sP σ).2 i = 40
    · rw [if_pos c40]
      obtain ⟨h2, r, t1, t2, t3, t4⟩ := rr_opens (rc := rc) A (by omega) R1 G1 W S O1 Og ls
      have s1 : ∀ d, jb_160 rc (d + 6) 20 [(0, .ref 336), (1, .int (Int32.ofNat st.length))] [] h = _ := fun d => by
        rw [s0 d, if_pos ((ty_r_is _ _ (by decide)).mpr c40), t1, jk_cI]
      by_cases c12 : bc f.2.2 = 12
      · rw [if_pos c12]
        refine ⟨h2, i, 1, fun d => ?_, t3 c12, FR.trans t2, rfl, rfl⟩
        rw [s1 d, exit _ (t3 c12)]
      · rw [if_neg c12]
        have t5 := t4 c12
        cases hw : ty_w (sP σ) (ty_s (sP σ) (i + 1)) with
        | none =>
          rw [hw] at t5
          refine ⟨h2, _, 1, fun d => ?_, t5, FR.trans t2, rfl, rfl⟩
          rw [s1 d, exit _ t5]
        | some q =>
          obtain ⟨z, w⟩ := q
          rw [hw] at t5
          obtain ⟨e0, q1, q2, g', q3, q4⟩ := t5
          obtain ⟨z1, z3, zn, hw2⟩ := ty_w_some A.tape hw
          obtain ⟨W2, b2, c1, hc, c2⟩ := ty_f_W W S (by omega) hw2
          have li := ty_s_le (p := sP σ) (i := i + 1) (by omega)
          have lj := ty_s_le (p := sP σ) (i := ty_s (sP σ) (i + 1) + z) zn
          have S2 : ty_S (upd hd (jf_free f) (jk_on st.head?)) (ty_f f st w) (jf_free f :: st) := ⟨c1, by rw [ty_f_set, bt_set _ c1 c1]; simp, upd_at _ _ _, ty_S_push c1 c2 (ty_f_set f st w) S⟩
          obtain ⟨h3, b, w', u1, u2, u3, u4⟩ := rr_run A m (ty_s (sP σ) (i + 1) + z) _ (jf_free f :: st) (ty_f f st w) h2 _ g' (by omega) (by omega) rfl lj.2 q1 q2 W2 S2 q3 q4 (by show st.length + 1 ≤ _; omega)
          refine ⟨h3, b, w', fun d => ?_, u2, (FR.trans t2).trans u3, u4⟩
          rw [s1 d, je_160_47, q1.2.2, jk_bs, if_pos rfl, e0, if_pos (by rw [show (0 : Int32) = Int32.ofNat 0 from rfl, jk_lt (by decide) (by omega)]; omega)]
          exact u1 d
    · rw [if_neg c40]
      have n40 : ¬ ty_r (sP σ) i = 40 := fun z => c40 ((ty_r_is _ _ (by decide)).mp z)
      obtain ⟨ew, w1, w2, w3, w4⟩ := R1.1.setWrong A 1
      have w5 := w2 i R1.2.1
      have w6 := FR.trans (rF.one (by decide) (by decide) w4)
      by_cases c41 : i < (sP σ).1 ∧ (sP σ).2 i = 41
      · rw [if_pos c41]
        have s1 : ∀ d, jb_160 rc (d + 6) 20 [(0, .ref 336), (1, .int (Int32.ofNat st.length))] [] h = _ := fun d => by
          rw [s0 d, if_neg n40, if_pos ((ty_r_is _ _ (by decide)).mpr c41)]
        cases st with
        | nil =>
          refine ⟨_, i, 1, fun d => ?_, w5, w6, rfl, rfl⟩
          rw [s1 d, if_pos (by decide), if_pos jk_b1, w1, jk_bs, exit _ w5]
        | cons c r =>
          obtain ⟨a1, a2, a3, a4⟩ := S
          have ll : (c :: r).length = r.length + 1 := rfl
          obtain ⟨e, v1, v2, v3, v4⟩ := R1.1.setAt A (i + 1)
          have R2 := v2 0 R1.2.2
          have G2 := ro_fr v4 (by decide) G1
          have O2 : jx_at (jx_set h1 336 e) 400 = jxI 0 12 g := (v4.2.2 400 (by decide)).trans O1
          have FR2 := FR.trans (rF.one (by decide) (by decide) v4)
          have li := ty_s_le (p := sP σ) (i := i + 1) (by omega)
          have s2 : ∀ d, jb_160 rc (d + 6) 20 [(0, .ref 336), (1, .int (Int32.ofNat (c :: r).length))] [] h = _ := fun d => by
            rw [s1 d, if_neg (by rw [jk_le0 (by omega)]; simp), R1.2.1, jk_bs, jk_succ, v1, jk_bs, ll, jk_dec, je_160_47, R2.2.2, jk_bs, if_pos rfl]
          dsimp only
          by_cases r0 : r = []
          · subst r0
            obtain ⟨h3, y1, y2, y3⟩ := rr_here (rc := rc) A (by omega) R2
            have G3 := ro_fr y3 (by decide) G2
            have O3 : jx_at h3 400 = jxI 0 12 g := (y3.2.2 400 (by decide)).trans O2
            have FR3 := FR2.trans (rF.one (by decide) (by decide) y3)
            have s3 : ∀ d, jb_160 rc (d + 6) 20 [(0, .ref 336), (1, .int (Int32.ofNat (c :: []).length))] [] h = _ := fun d => by
              rw [s2 d, if_neg (by decide), y1, jk_cI]
            by_cases ce : (sP σ).1 ≤ ty_s (sP σ) (i + 1)
            · rw [if_pos ⟨rfl, ce⟩]
              refine ⟨h3, _, 0, fun d => ?_, y2, FR3, rfl, G3⟩
              rw [s3 d, if_neg (fun z => by have := (ty_r_ge A.tape _).mp z; omega)]
            · rw [if_neg (fun z => ce z.2)]
              obtain ⟨h4, b, w', u1, u2, u3, u4⟩ := rr_run A m (ty_s (sP σ) (i + 1)) (ty_s (sP σ) (i + 1)) [] f h3 hd g (by omega) (by omega) (ty_s_s _) li.2 y2 G3 W trivial O3 trivial (Nat.zero_le _)
              refine ⟨h4, b, w', fun d => ?_, u2, FR3.trans u3, u4⟩
              rw [s3 d, if_pos ((ty_r_ge A.tape _).mpr (by omega))]
              exact u1 d
          · rw [if_neg (fun z => r0 z.1)]
            have rl : 0 < r.length := List.length_pos_iff.mpr r0
            obtain ⟨h4, b, w', u1, u2, u3, u4⟩ := rr_run A m (i + 1) (ty_s (sP σ) (i + 1)) r f _ hd g (by omega) (by omega) rfl li.2 R2 G2 W a4 O2 Og.2 (by omega)
            refine ⟨h4, b, w', fun d => ?_, u2, FR2.trans u3, u4⟩
            rw [s2 d, if_pos (by rw [show (0 : Int32) = Int32.ofNat 0 from rfl, jk_lt (by decide) (by omega)]; omega)]
            exact u1 d
      · rw [if_neg c41]
        refine ⟨_, i, 1, fun d => ?_, w5, w6, rfl, rfl⟩
        rw [s0 d, if_neg n40, if_neg (fun z => c41 ((ty_r_is _ _ (by decide)).mp z)), if_pos jk_b1, w1, jk_bs, exit _ w5]
/-- the row is cleared -/
theorem rr_clear (R : RSt h σ) (A : AWt σ) : ∀ (m k : Nat) (h1 : jxH) (B : Nat → Int32), k + m = 25 → Fr (fun x => x = 399) h h1 → jx_at h1 399 = jxI 0 25 B → (∀ j, j < k → B j = 0) → ∃ h' B', (∀ d, jb_160 rc d 2 [(0, .ref 336), (1, .int (Int32.ofNat k))] [] h1 = jb_160 rc d 2 [(0, .ref 336), (1, .int (Int32.ofNat 25))] [] h') ∧ Fr (fun x => x = 399) h h' ∧ jx_at h' 399 = jxI 0 25 B' ∧ ∀ j, j < 25 → B' j = 0
  | 0, k, h1, B, e, F, g, q => by
    obtain rfl : k = 25 := by omega
    exact ⟨h1, B, fun d => rfl, F, g, q⟩
  | m + 1, k, h1, B, e, F, g, q => by
    obtain ⟨h', B', r1, r2⟩ := rr_clear R A m (k + 1) (jx_set h1 399 (jxI 0 25 (upd B k 0))) (upd B k 0) (by omega) (F.trans Fr.one) (jk_at_self ..) (fun j hj => by
      unfold upd
      by_cases z : j = k
      · rw [if_pos z]
      · rw [if_neg z]; exact q j (by omega))
    refine ⟨h', B', fun d => ?_, r2⟩
    have o : jx_gR (jx_at h1 336) 12 14 = some 399 := by rw [F.2.2 336 (by decide)]; exact R.g14
    rw [je_160_2, if_neg (by rw [show (25 : Int32) = Int32.ofNat 25 from rfl, jk_le (by decide) (by omega)]; omega), o, jk_bs, g, jk_sI (by omega) (by decide), jk_bs, jk_succ]
    exact r1 d
theorem rr_forestHere (R : RSt h σ) (A : AWt σ) : ∃ h' b w, (∀ d, jx_C rc (d + 7) 160 [.ref 336] h = some (none, h')) ∧ RA h' σ b w ∧ rF h h' ∧ (match ty_run (sP σ) 122 (ty_s (sP σ) 0) [] jf_0 with
    | .inl k => b = k ∧ w = 1
    | .inr g' => w = 0 ∧ ro_at h' 399 g') := by
  have hp := A.tape.1
  obtain ⟨f0, B, b1, -⟩ := R.read
  obtain ⟨h1, B', r1, r2, r3, r4⟩ := rr_clear (rc := rc) R A 25 0 h B (by omega) Fr.rfl b1 (fun j hj => absurd hj (Nat.not_lt_zero j))
  have G1 : ro_at h1 399 jf_0 := ⟨B', r3, r4 0 (by decide), fun k hk => r4 _ (by omega), fun k hk => r4 _ (by omega)⟩
  obtain ⟨g0, o0⟩ := R.opn
  have R1 : RSt h1 σ := RS_scr R A r2 (fun x q => by unfold m_scrP; omega) (mscr_39 R.scr (r2.mono fun x q => Or.inl q) ⟨_, G1⟩ ⟨g0, (r2.2.2 400 (by decide)).trans o0⟩)
  obtain ⟨e, s1, s2, s3, s4⟩ := R1.setAt A 0
  obtain ⟨e', t1, t2, t3, t4⟩ := s3.setWrong A 0
  have at0 : jx_gI (jx_at (jx_set h1 336 e) 336) 12 12 = some (Int32.ofNat 0) := by
    obtain ⟨⟨a, b, c, d, ee, f, g, k, o, -⟩, -⟩ := R1
    have : ∃ w, jx_gI (jx_at h1 336) 12 13 = some w := by rw [o]; exact ⟨_, rfl⟩
    obtain ⟨w, hw⟩ := this
    exact (s2 w hw).2.1
  have R2 := t2 0 at0
  have FA : Fr (fun x => x = 336) h1 _ := s4.trans t4
  have li := ty_s_le (p := sP σ) (i := 0) (by omega)
  obtain ⟨h3, b, w, u1, u2, u3, u4⟩ := rr_run (rc := rc) A 122 0 (ty_s (sP σ) 0) [] jf_0 _ (fun _ => 0) g0 (by omega) (by omega) rfl li.2 R2 (ro_fr FA (by decide) G1) jf_W_0 trivial ((FA.2.2 400 (by decide)).trans ((r2.2.2 400 (by decide)).trans o0)) trivial (Nat.zero_le _)
  refine ⟨h3, b, w, fun d => ?_, u2, ((rF.scr r2 (fun x q => by unfold m_scrP; omega)).trans (rF.one (by decide) (by decide) FA)).trans u3, u4⟩
  rw [je_160, if_pos R.is]
  refine (r1 (d + 6)).trans ?_
  rw [je_160_2, if_pos (by decide)]
  have s1' : jx_pF (jx_at h1 336) 12 12 (.int 0) = some e := s1
  rw [s1', jk_bs, if_pos jk_r0', t1, jk_bs]
  exact u1 d
theorem rr_byHand2 (R : RSt h σ) (A : AWt σ) : ∃ h', (∀ d, jx_C rc (d + 1) 100 [.ref 336] h = some (none, h')) ∧ RSt h' (hand σ (sF σ)) ∧ Fr (fun x => x = 336) h h' := by
  obtain ⟨⟨a, b, c, d, e, f, g, k', o, o'⟩, r1, r2, r3, r4, r5, r6, r7, r8, r9⟩ := id R
  have F : Fr (fun x => x = 336) h (jx_set h 336 (m_obj 0 0 (Int32.ofNat σ.2.2.2.2.2.2.1) a b c d (Int32.ofNat σ.2.2.2.2.1.1) e f g k' (jk_b σ.2.2.2.2.2.1.isSome))) := Fr.one
  obtain ⟨t1, t2, t3, D, t4, t5⟩ := mtr_fr F (fun x _ _ => by omega) A.tr.2.1 r3
  refine ⟨_, fun dd => ?_, ⟨⟨a, b, c, d, e, f, g, k', jk_at_self .., o'⟩, mtold_fr F (by decide) r1, ro_fr F (by decide) r2, ⟨t1, t2, fun i _ => Or.inl rfl, D, t4, fun i hi => absurd hi (Nat.not_lt_zero i)⟩, msh_fr F (fun x _ _ => by omega) r4, mss_fr F (fun x _ _ => by omega) r5, mcrew_fr F (by decide) r6, mim_fr F (by decide) (by decide) r7, mtape_fr F (by decide) r8, mscr_fr F (fun x q => by unfold m_scrP at q; omega) r9⟩, F⟩
  rw [je_100, if_pos R.is, o, show jx_pF (m_obj (Int32.ofNat σ.2.1.1) (Int32.ofNat σ.2.1.2.1) (Int32.ofNat σ.2.2.2.2.2.2.1) a b c d (Int32.ofNat σ.2.2.2.2.1.1) e f g k' (jk_b σ.2.2.2.2.2.1.isSome)) 12 4 (.int 0) = some (m_obj 0 (Int32.ofNat σ.2.1.2.1) (Int32.ofNat σ.2.2.2.2.2.2.1) a b c d (Int32.ofNat σ.2.2.2.2.1.1) e f g k' (jk_b σ.2.2.2.2.2.1.isSome)) from rfl, jk_bs, jk_at_self, show jx_pF (m_obj 0 (Int32.ofNat σ.2.1.2.1) (Int32.ofNat σ.2.2.2.2.2.2.1) a b c d (Int32.ofNat σ.2.2.2.2.1.1) e f g k' (jk_b σ.2.2.2.2.2.1.isSome)) 12 5 (.int 0) = some (m_obj 0 0 (Int32.ofNat σ.2.2.2.2.2.2.1) a b c d (Int32.ofNat σ.2.2.2.2.1.1) e f g k' (jk_b σ.2.2.2.2.2.1.isSome)) from rfl, jk_bs, jk_set_set]
  rfl
theorem rr_forest (R : RSt h σ) (A : AWt σ) : ∃ h', (∀ d, jx_C rc (d + 20) 161 [.ref 336] h = some (some (.int (op_forest σ).1), h')) ∧ RSt h' (op_forest σ).2 ∧ rF h h' := by
  obtain ⟨h1, b, w, r1, R1, F1, K⟩ := rr_forestHere (rc := rc) R A
  obtain ⟨⟨at_, wrong, c, d', ee, f, g, k, o, o'⟩, -⟩ := id R1.1
  have on : jx_pF (jx_at h1 336) 12 11 (.int 0) = some (m_obj (Int32.ofNat σ.2.1.1) (Int32.ofNat σ.2.1.2.1) 0 at_ wrong c d' (Int32.ofNat (sC σ).1) ee f g k (jk_b σ.2.2.2.2.2.1.isSome)) := by rw [o]; rfl
  obtain ⟨R2, F2⟩ := RS_tape (p' := (0, (sP σ).2)) R1.1 A (Fr.one (e := m_obj (Int32.ofNat σ.2.1.1) (Int32.ofNat σ.2.1.2.1) 0 at_ wrong c d' (Int32.ofNat (sC σ).1) ee f g k (jk_b σ.2.2.2.2.2.1.isSome))) (fun x q => Or.inl q) ⟨at_, wrong, c, d', ee, f, g, k, jk_at_self .., o'⟩ (by
    obtain ⟨G, g1, g2⟩ := R1.1.tape
    exact ⟨G, (jk_at_ne _ _ (by decide)).trans g1, fun i hi => absurd hi (Nat.not_lt_zero i)⟩)
  have gw : jx_gI (m_obj (Int32.ofNat σ.2.1.1) (Int32.ofNat σ.2.1.2.1) 0 at_ wrong c d' (Int32.ofNat (sC σ).1) ee f g k (jk_b σ.2.2.2.2.2.1.isSome)) 12 13 = some w := by
    have := R1.2.2
    rw [o] at this; exact this
  have st : ∀ d, jx_C rc (d + 20) 161 [.ref 336] h = _ := fun d => by
    rw [je_161, if_pos R.is, r1, jk_cV, R1.2.1, jk_bs, on, jk_bs, jk_at_self, gw, jk_bs]
  have W0 : p_W (0, (sP σ).2) := ⟨Nat.zero_le _, fun i hi => absurd hi (Nat.not_lt_zero i)⟩
  have FA := F1.trans F2
  unfold op_forest
  cases hr : ty_run (sP σ) 122 (ty_s (sP σ) 0) [] jf_0 with
  | inl k' =>
    rw [hr] at K
    obtain ⟨e1, e2⟩ := K
    refine ⟨_, fun d => ?_, R2, FA⟩
    rw [st d, e2, if_neg (by decide), e1]
  | inr f' =>
    rw [hr] at K
    obtain ⟨e1, G⟩ := K
    have A2 : AWt (setP σ (0, (sP σ).2)) := aa_tape A W0
    obtain ⟨h2, s1, s2, s3⟩ := rr_byHand2 (rc := rc) R2 A2
    have G2 : ro_at h2 399 f' := ro_fr s3 (by decide) (ro_fr Fr.one (by decide) G)
    obtain ⟨h3, t1, t2, t3⟩ := ro_copies (rc := rc) (a := 399) (b := 338) (by decide) G2 s2.F
    have R3 := rr_F s2 t3 t2
    refine ⟨h3, fun d => ?_, R3, (FA.trans (rF.one (by decide) (by decide) s3)).trans (rF.one (by decide) (by decide) t3)⟩
    rw [st d, e1, if_pos rfl, s1, jk_cV, s2.g14, jk_bs, s2.g1, jk_bs, t1, jk_cV, R3.g1, jk_bs, ro_0 t2, jk_bs, rf_many, jk_cI]
end
