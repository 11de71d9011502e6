/-! forest(): the reference's bytes and weights -/
def ty_r (p : jP) (i : Nat) : Int32 := if i < p.1 then p.2 i else -1
section
variable {rc : Nat → Nat × (Nat → Int32)} {h h' : jxH} {σ : jSt} {P : Nat → Prop}
/-- its object with the place at hand and whether all is wrong -/
def RA (h : jxH) (σ : jSt) (a : Nat) (w : Int32) : Prop := RSt h σ ∧ jx_gI (jx_at h 336) 12 12 = some (Int32.ofNat a) ∧ jx_gI (jx_at h 336) 12 13 = some w
theorem mscr_39 (R : m_scr h) (F : Fr (fun x => x = 399 ∨ x = 400) h h') (G : ∃ f, ro_at h' 399 f) (O : ∃ g, jx_at h' 400 = jxI 0 12 g) : m_scr h' := by
  obtain ⟨⟨g1, a1⟩, ⟨g2, a2⟩, ⟨g3, a3⟩, a4, a5, -, -, a8, a9, ⟨g10, a10⟩, a11, a12, ⟨g13, a13⟩, ⟨g14, a14⟩, ⟨g15, a15⟩, a16, a17⟩ := R
  have k : ∀ x, x ≠ 399 → x ≠ 400 → jx_at h' x = jx_at h x := fun x hx hy => F.2.2 x (by omega)
  refine ⟨⟨_, (k _ (by omega) (by omega)).trans a1⟩, ⟨g2, (k _ (by omega) (by omega)).trans a2⟩, ⟨g3, (k _ (by omega) (by omega)).trans a3⟩, rows_fr F (by omega) a4, fun i hi => ?_, G, O, rows_fr F (by omega) a8, fun i hi => ?_, ⟨g10, (k _ (by omega) (by omega)).trans a10⟩, rows_fr F (by omega) a11, fun i hi => ?_, ⟨g13, (k _ (by omega) (by omega)).trans a13⟩, ⟨g14, (k _ (by omega) (by omega)).trans a14⟩, ⟨g15, (k _ (by omega) (by omega)).trans a15⟩, rows_fr F (by omega) a16, fun i hi => ?_⟩
  · obtain ⟨g, e⟩ := a5 i hi; exact ⟨g, (k _ (by omega) (by omega)).trans e⟩
  · obtain ⟨g, e⟩ := a9 i hi; exact ⟨g, (k _ (by omega) (by omega)).trans e⟩
  · obtain ⟨g, e⟩ := a12 i hi; exact ⟨g, (k _ (by omega) (by omega)).trans e⟩
  · obtain ⟨f, g⟩ := a17 i hi; exact ⟨f, ro_fr F (by omega) g⟩
theorem RSt.read (R : RSt h σ) : ∃ f, ro_at h 399 f := by
  obtain ⟨-, -, -, -, -, a6, -⟩ := R.scr
  exact a6
theorem RSt.opn (R : RSt h σ) : ∃ g, jx_at h 400 = jxI 0 12 g := by
  obtain ⟨-, -, -, -, -, -, a7, -⟩ := R.scr
  exact a7
theorem RA.read {a : Nat} {w : Int32} (R : RA h σ a w) (A : AWt σ) (F : Fr (fun x => x = 399) h h') {f : jF} (G : ro_at h' 399 f) : RA h' σ a w ∧ rF h h' := by
  obtain ⟨R, r1, r2⟩ := R
  obtain ⟨g, e⟩ := R.opn
  refine ⟨⟨RS_scr R A F (fun x q => by unfold m_scrP; omega) (mscr_39 R.scr (F.mono fun x q => Or.inl q) ⟨f, G⟩ ⟨g, (F.2.2 400 (by decide)).trans e⟩), by rw [F.2.2 336 (by decide)]; exact r1, by rw [F.2.2 336 (by decide)]; exact r2⟩, rF.scr F (fun x q => by unfold m_scrP; omega)⟩
theorem RA.opn {a : Nat} {w : Int32} (R : RA h σ a w) (A : AWt σ) (F : Fr (fun x => x = 400) h h') {g : Nat → Int32} (G : jx_at h' 400 = jxI 0 12 g) : RA h' σ a w ∧ rF h h' := by
  obtain ⟨R, r1, r2⟩ := R
  obtain ⟨f, e⟩ := R.read
  refine ⟨⟨RS_scr R A F (fun x q => by unfold m_scrP; omega) (mscr_39 R.scr (F.mono fun x q => Or.inr q) ⟨f, ro_fr F (by decide) e⟩ ⟨g, G⟩), by rw [F.2.2 336 (by decide)]; exact r1, by rw [F.2.2 336 (by decide)]; exact r2⟩, rF.scr F (fun x q => by unfold m_scrP; omega)⟩
theorem RSt.same (R : RSt h σ) (A : AWt σ) (F : Fr (fun x => x = 336) h h') (hO : ∃ a b c d f g k l : Int32, jx_at h' 336 = m_obj (Int32.ofNat σ.2.1.1) (Int32.ofNat σ.2.1.2.1) (Int32.ofNat (sP σ).1) a b c d (Int32.ofNat (sC σ).1) f g k l (jk_b σ.2.2.2.2.2.1.isSome) ∧ (σ.2.2.2.2.2.1.isSome = true → l = Int32.ofNat (im_n σ.2.2.2.2.2.1))) : RSt h' σ ∧ rF h h' :=
  RS_tape (p' := sP σ) R A F (fun x q => Or.inl q) hO (mtape_fr F (by decide) R.tape)
theorem RSt.setAt (R : RSt h σ) (A : AWt σ) (a : Nat) : ∃ e, jx_pF (jx_at h 336) 12 12 (.int (Int32.ofNat a)) = some e ∧ (∀ w, jx_gI (jx_at h 336) 12 13 = some w → RA (jx_set h 336 e) σ a w) ∧ RSt (jx_set h 336 e) σ ∧ Fr (fun x => x = 336) h (jx_set h 336 e) := by
  obtain ⟨⟨at_, wrong, c, d, ee, f, g, k, o, o'⟩, -⟩ := id R
  refine ⟨_, by rw [o]; rfl, ?_⟩
  obtain ⟨R1, F1⟩ := R.same A Fr.one ⟨Int32.ofNat a, wrong, c, d, ee, f, g, k, jk_at_self .., o'⟩
  refine ⟨fun w hw => ⟨R1, by rw [jk_at_self]; rfl, by rw [jk_at_self]; rw [o] at hw; exact hw⟩, R1, Fr.one⟩
theorem RSt.setWrong (R : RSt h σ) (A : AWt σ) (w : Int32) : ∃ e, jx_pF (jx_at h 336) 12 13 (.int w) = some e ∧ (∀ a, jx_gI (jx_at h 336) 12 12 = some (Int32.ofNat a) → RA (jx_set h 336 e) σ a w) ∧ RSt (jx_set h 336 e) σ ∧ Fr (fun x => x = 336) h (jx_set h 336 e) := by
  obtain ⟨⟨at_, wrong, c, d, ee, f, g, k, o, o'⟩, -⟩ := id R
  refine ⟨_, by rw [o]; rfl, ?_⟩
  obtain ⟨R1, F1⟩ := R.same A Fr.one ⟨at_, w, c, d, ee, f, g, k, jk_at_self .., o'⟩
  refine ⟨fun a ha => ⟨R1, by rw [jk_at_self]; rw [o] at ha; exact ha, by rw [jk_at_self]; rfl⟩, R1, Fr.one⟩
theorem RSt.byte (R : RSt h σ) (A : AWt σ) {i : Nat} (hi : i < (sP σ).1) : jx_aI (jx_at h 398) 0 (Int32.ofNat i) = some ((sP σ).2 i) := by
  have hp := A.tape.1
  obtain ⟨G, g1, g2⟩ := R.tape
  rw [g1, jk_aI (by omega) (by decide), g2 i hi]
theorem rr_byte (R : RSt h σ) (A : AWt σ) {i : Nat} (hi : i < 1000) (d : Nat) : jx_C rc (d + 1) 156 [.ref 336, .int (Int32.ofNat i)] h = some (some (.int (ty_r (sP σ) i)), h) := by
  have hp := A.tape.1
  have tl : jx_gI (jx_at h 336) 12 11 = some (Int32.ofNat (sP σ).1) := R.taped
  unfold ty_r
  rw [je_156, if_pos R.is, tl, jk_bs]
  by_cases c : i < (sP σ).1
  · rw [if_pos c, if_neg (by rw [jk_le (by omega) (by omega)]; omega), R.g10, jk_bs, R.byte A c, jk_bs]
  · rw [if_neg c, if_pos (by rw [jk_le (by omega) (by omega)]; omega)]
theorem rr_dig (A : AWt σ) (i d : Nat) : jx_C rc (d + 2) 157 [.int (ty_r (sP σ) i)] h = some (some (.int (jk_b (ty_d (sP σ) i))), h) := by
  have e : jp_bt (ty_r (sP σ) i).toInt64 48 57 = ty_d (sP σ) i := by
    unfold jp_bt ty_r ty_d
    rw [show (48 : Int64) = (48 : Int32).toInt64 from rfl, show (57 : Int64) = (57 : Int32).toInt64 from rfl]
    simp only [jk_l64]
    by_cases c : i < (sP σ).1
    · rw [if_pos c, decide_eq_true c]
      by_cases c1 : (sP σ).2 i < 48
      · rw [if_pos c1, decide_eq_true c1]; rfl
      · rw [if_neg c1, decide_eq_false c1]
        by_cases c2 : 57 < (sP σ).2 i
        · rw [if_pos c2, decide_eq_true c2]; rfl
        · rw [if_neg c2, decide_eq_false c2]; rfl
    · rw [if_neg c, decide_eq_false c, if_pos (by decide)]; rfl
  rw [je_157, rf_in, jk_cI, e, if_pos (jk_bb _)]
/-- here() -/
theorem rr_here_l (A : AWt σ) : ∀ (m a : Nat) (w : Int32) (h : jxH), (sP σ).1 - a ≤ m → a < 1000 → RA h σ a w → ∃ h', (∀ d, jb_155 rc d 0 [(0, .ref 336)] [] h = some (some (.int (ty_r (sP σ) (ty_s (sP σ) a))), h')) ∧ RA h' σ (ty_s (sP σ) a) w ∧ Fr (fun x => x = 336) h h'
  | m, a, w, h, l, la, R => by
    have hp := A.tape.1
    have tl : jx_gI (jx_at h 336) 12 11 = some (Int32.ofNat (sP σ).1) := R.1.taped
    by_cases c : a < (sP σ).1
    · have st : ∀ d, jb_155 rc d 0 [(0, .ref 336)] [] h = _ := fun d => by
        rw [je_155_0, R.2.1, jk_bs, tl, jk_bs, if_neg (by rw [jk_le (by omega) (by omega)]; omega), R.1.g10, jk_bs, jk_bs, R.1.byte A c, jk_bs]
      by_cases c2 : (sP σ).2 a = 32
      · cases m with
        | zero => omega
        | succ m =>
          obtain ⟨e, s1, s2, s3, s4⟩ := R.1.setAt A (a + 1)
          obtain ⟨h', u1, u2, u3⟩ := rr_here_l A m (a + 1) w _ (by omega) (by omega) (s2 w R.2.2)
          rw [ty_s_step ⟨c, c2⟩]
          refine ⟨h', fun d => ?_, u2, Fr.one.trans u3⟩
          rw [st d, if_pos c2, jk_bs, jk_succ, s1, jk_bs]
          exact u1 d
      · rw [ty_s_fix (fun z => c2 z.2)]
        refine ⟨h, fun d => ?_, R, Fr.rfl⟩
        rw [st d, if_neg c2, jk_bs, jk_bs, if_neg (by rw [jk_le (by omega) (by omega)]; omega), jk_bs, jk_bs, R.1.byte A c, jk_bs]
        unfold ty_r
        rw [if_pos c]
    · rw [ty_s_fix (fun z => c z.1)]
      refine ⟨h, fun d => ?_, R, Fr.rfl⟩
      rw [je_155_0, R.2.1, jk_bs, tl, jk_bs, if_pos (by rw [jk_le (by omega) (by omega)]; omega), jk_bs, jk_bs, if_pos (by rw [jk_le (by omega) (by omega)]; omega)]
      unfold ty_r
      rw [if_neg c]
theorem rr_here (A : AWt σ) {a : Nat} {w : Int32} (la : a < 1000) (R : RA h σ a w) : ∃ h', (∀ d, jx_C rc (d + 1) 155 [.ref 336] h = some (some (.int (ty_r (sP σ) (ty_s (sP σ) a))), h')) ∧ RA h' σ (ty_s (sP σ) a) w ∧ Fr (fun x => x = 336) h h' := by
  obtain ⟨h', u1, u2, u3⟩ := rr_here_l (rc := rc) A ((sP σ).1 - a) a w h (Nat.le_refl _) la R
  refine ⟨h', fun d => ?_, u2, u3⟩
  rw [je_155, if_pos R.1.is]
  exact u1 d
theorem jp_bt12 {c : Nat} (hc : c < 1000) : jp_bt (Int32.ofNat c).toInt64 1 2 = decide (1 ≤ c ∧ c ≤ 2) := by
  unfold jp_bt
  rw [show (1 : Int64) = (Int32.ofNat 1).toInt64 from rfl, show (2 : Int64) = (Int32.ofNat 2).toInt64 from rfl]
  simp only [jk_l64, jk_lt (show c < 2 ^ 31 by omega) (show 1 < 2 ^ 31 by decide), jk_lt (show 2 < 2 ^ 31 by decide) (show c < 2 ^ 31 by omega)]
  by_cases c1 : c < 1
  · rw [if_pos c1, decide_eq_false (by omega)]
  · rw [if_neg c1]
    by_cases c2 : 2 < c
    · rw [if_pos c2, decide_eq_false (by omega)]
    · rw [if_neg c2, decide_eq_true (by omega)]
/-- what is read as a weight, and what stands then -/
def ty_W (σ : jSt) (i : Nat) (h' : jxH) (r : Int32) : Prop := match ty_w (sP σ) i with
  | some (z, w) => r = w ∧ RA h' σ (i + z) 0
  | none => r = 0 ∧ RA h' σ i 1
theorem rr_wt_bad (A : AWt σ) {i : Nat} (R : RA h σ i 0) : ∃ h', (∀ d x x3 c, c < 1000 → ty_d (sP σ) (x + c) = false → x + c < 1000 → ¬ (1 ≤ c ∧ c ≤ 2) → ∀ s, jb_158 rc (d + 2) 22 [(0, .ref 336), (1, .int s), (2, .int (Int32.ofNat x)), (3, .int x3), (4, .int (Int32.ofNat c))] [] h = some (some (.int 0), h')) ∧ (∀ d x x3 c, c < 1000 → ty_d (sP σ) (x + c) = false → x + c < 1000 → 1 ≤ c ∧ c ≤ 2 → ¬ x3 ≤ 30 → ∀ s, jb_158 rc (d + 2) 22 [(0, .ref 336), (1, .int s), (2, .int (Int32.ofNat x)), (3, .int x3), (4, .int (Int32.ofNat c))] [] h = some (some (.int 0), h')) ∧ RA h' σ i 1 ∧ Fr (fun x => x = 336) h h' := by
  obtain ⟨e, s1, s2, s3, s4⟩ := R.1.setWrong A 1
  refine ⟨jx_set h 336 e, fun d x x3 c hc hd hx hn s => ?_, fun d x x3 c hc hd hx hn h30 s => ?_, s2 i R.2.1, s4⟩
  · rw [je_158_22, jk_add2, rr_byte R.1 A hx, jk_cI, rr_dig A, jk_cI, jk_if0, if_neg (by rw [hd]; decide), rf_in, jk_cI, jk_if0, jp_bt12 hc, if_neg (by rw [decide_eq_false hn]; decide), if_pos jk_b1, s1, jk_bs]
  · rw [je_158_22, jk_add2, rr_byte R.1 A hx, jk_cI, rr_dig A, jk_cI, jk_if0, if_neg (by rw [hd]; decide), rf_in, jk_cI, jk_if0, jp_bt12 hc, if_pos (by rw [decide_eq_true hn]), if_neg h30, if_pos jk_b1, s1, jk_bs]
theorem rr_wt_more (R : RSt h σ) (A : AWt σ) {x c : Nat} (hx : x + c < 1000) (hd : ty_d (sP σ) (x + c) = true) (s x3 : Int32) (d : Nat) : jb_158 rc (d + 2) 22 [(0, .ref 336), (1, .int s), (2, .int (Int32.ofNat x)), (3, .int x3), (4, .int (Int32.ofNat c))] [] h = jb_158 rc (d + 2) 22 [(0, .ref 336), (1, .int s), (2, .int (Int32.ofNat x)), (3, .int (if 2 ≤ c then x3 else x3 * 10 + (sP σ).2 (x + c) - 48)), (4, .int (Int32.ofNat (c + 1)))] [] h := by
  have e := ((ty_d_iff A.tape).mp hd).1
  rw [je_158_22, jk_add2, rr_byte R A hx, jk_cI, rr_dig A, jk_cI, jk_if0, if_pos hd]
  by_cases c2 : 2 ≤ c
  · rw [if_pos (by rw [show (2 : Int32) = Int32.ofNat 2 from rfl, jk_le (by decide) (by omega)]; exact c2), if_pos c2, jk_succ]
  · rw [if_neg (by rw [show (2 : Int32) = Int32.ofNat 2 from rfl, jk_le (by decide) (by omega)]; exact c2), if_neg c2, jk_succ, rr_byte R A hx, jk_cI]
    unfold ty_r
    rw [if_pos e, Int32.mul_comm 10 x3]
theorem rr_wt_tail (R : RSt h σ) (A : AWt σ) {h1 : jxH} {s : Int32} {x : Nat} (hx : x ≤ 200) (bad : ∀ d x3 c, c < 300 → ty_d (sP σ) (x + c) = false → 3 ≤ c → jb_158 rc (d + 2) 22 [(0, .ref 336), (1, .int s), (2, .int (Int32.ofNat x)), (3, .int x3), (4, .int (Int32.ofNat c))] [] h = some (some (.int 0), h1)) (d : Nat) : ∀ (m c : Nat) (x3 : Int32), 3 ≤ c → c < 200 → (sP σ).1 - (x + c) ≤ m → jb_158 rc (d + 2) 22 [(0, .ref 336), (1, .int s), (2, .int (Int32.ofNat x)), (3, .int x3), (4, .int (Int32.ofNat c))] [] h = some (some (.int 0), h1)
  | m, c, x3, h3, hc, l => by
    by_cases q : ty_d (sP σ) (x + c) = true
    · have e := ((ty_d_iff A.tape).mp q).1
      have hp := A.tape.1
      cases m with
      | zero => omega
      | succ m =>
        rw [rr_wt_more R A (by omega) q]
        exact rr_wt_tail R A hx bad d m (c + 1) _ (by omega) (by omega) (by omega)
    · exact bad d x3 c (by omega) (by simpa using q) h3
end
