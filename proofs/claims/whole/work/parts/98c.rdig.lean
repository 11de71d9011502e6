/-! fewest(): the reference -/
def rg_k (f : jF) (p : Nat) : Int32 := if f.1 p = 0 then (if bc (f.2.1 p) = 2 then 4 else 5) else 0
theorem rg_k_sk {f : jF} {p : Nat} (hp : p < 12) : (jf_ref f false (rg_k f p, Int32.ofNat p, 0, 0, 0) = 0 ↔ jf_ref f false (jn_sk f p, Int32.ofNat p, 0, 0, 0) = 0) ∧ (jf_ref f false (jn_sk f p, Int32.ofNat p, 0, 0, 0) = 0 → rg_k f p = jn_sk f p) := by
  have u : ∀ {q : Nat}, q < 12 → Int32.ofNat p = Int32.ofNat q → p = q := fun hq e => (jk_inj (by omega) (by omega)).mp e
  have d4 : jf_ref f false (4, Int32.ofNat p, 0, 0, 0) = 0 → f.1 p = 0 ∧ bc (f.2.1 p) = 2 := fun e => by
    obtain ⟨q, hq, e1, -, e2, e3⟩ := jf_ref_4 e rfl
    rw [u hq e1]; exact ⟨e2, e3⟩
  have d5 : jf_ref f false (5, Int32.ofNat p, 0, 0, 0) = 0 → f.1 p = 0 ∧ bc (f.2.1 p) = 1 := fun e => by
    obtain ⟨q, hq, e1, -, e2, e3⟩ := jf_ref_5 e rfl
    rw [u hq e1]; exact ⟨e2, e3⟩
  unfold rg_k jn_sk
  by_cases w : f.1 p = 0
  · rw [if_pos w, if_pos w]
    by_cases b2 : bc (f.2.1 p) = 2
    · rw [if_pos b2, if_neg (by omega)]
      exact ⟨Iff.rfl, fun _ => rfl⟩
    · rw [if_neg b2]
      by_cases b1 : bc (f.2.1 p) = 1
      · rw [if_pos b1]
        exact ⟨Iff.rfl, fun _ => rfl⟩
      · rw [if_neg b1]
        exact ⟨⟨fun e => absurd (d5 e).2 b1, fun e => absurd (d4 e).2 b2⟩, fun e => absurd (d4 e).2 b2⟩
  · rw [if_neg w, if_neg w]
    exact ⟨Iff.rfl, fun _ => rfl⟩
section
variable {rc : Nat → Nat × (Nat → Int32)} {h h' : jxH} {σ : jSt} {P : Nat → Prop} {S : dS} {f : jF}
def RD (h : jxH) (σ : jSt) (S : dS) : Prop := RSt h σ ∧ jx_gI (jx_at h 336) 12 29 = some (Int32.ofNat S.1) ∧ jx_gI (jx_at h 336) 12 30 = some (Int32.ofNat S.2.1) ∧ jx_gI (jx_at h 336) 12 31 = some S.2.2
theorem RSt.setD (R : RSt h σ) (A : AWt σ) (s d : Nat) (a : Int32) : ∃ e1 e2 e3, jx_pF (jx_at h 336) 12 29 (.int (Int32.ofNat s)) = some e1 ∧ jx_pF e1 12 30 (.int (Int32.ofNat d)) = some e2 ∧ jx_pF e2 12 31 (.int a) = some e3 ∧ RD (jx_set h 336 e3) σ (s, d, a) := by
  obtain ⟨⟨at_, wrong, c, dd, ee, f, g, k, o, o'⟩, -⟩ := id R
  refine ⟨_, _, _, by rw [o]; rfl, rfl, rfl, ?_⟩
  obtain ⟨R1, F1⟩ := R.same A Fr.one ⟨at_, wrong, c, dd, Int32.ofNat s, Int32.ofNat d, a, k, jk_at_self .., o'⟩
  exact ⟨R1, by rw [jk_at_self]; rfl, by rw [jk_at_self]; rfl, by rw [jk_at_self]; rfl⟩
def rg_P (d x : Nat) : Prop := x = 336 ∨ (439 + (d + 1) ≤ x ∧ x < 445)
theorem RD.row (R : RD h σ S) (A : AWt σ) {i : Nat} (hi : i < 6) (F : Fr (fun x => x = 439 + i) h h') {g : jF} (G : ro_at h' (439 + i) g) : RD h' σ S := by
  have o : jx_at h' 336 = jx_at h 336 := F.2.2 _ (by omega)
  exact ⟨(rr_th R.1 A hi F G).1, by rw [o]; exact R.2.1, by rw [o]; exact R.2.2.1, by rw [o]; exact R.2.2.2⟩
theorem RSt.rowx (R : RSt h σ) {i : Nat} (hi : i < 6) : ∃ f, ro_at h (439 + i) f := by
  obtain ⟨-, -, -, -, -, -, -, -, -, -, -, -, -, -, -, -, a17⟩ := R.scr
  exact a17 i hi
def rg_D (rc : Nat → Nat × (Nat → Int32)) (σ : jSt) (m : Nat) : Prop := ∀ (d : Nat) (a : Int32) (f : jF) (S : dS) (h : jxH), d + m ≤ 4 → jf_W f → RD h σ S → dg_s S → ro_at h (439 + d) f → ∃ h', (∀ D, jx_C rc (D + m + 10) 189 [.ref 336, .int (Int32.ofNat d), .int (Int32.ofNat (d + m)), .int a] h = some (none, h')) ∧ RD h' σ (dg_t m d a f S) ∧ Fr (rg_P d) h h' ∧ dg_s (dg_t m d a f S)
theorem rg_loop (A : AWt σ) {m d : Nat} (ih : rg_D rc σ m) (hd : d + (m + 1) ≤ 4) (a : Int32) (W : jf_W f) : ∀ (r k : Nat) (S : dS) (h : jxH), k + r = 12 → RD h σ S → dg_s S → ro_at h (439 + d) f → ∃ h', (∀ D, jb_189 rc (D + m + 10) 33 [(0, .ref 336), (1, .int (Int32.ofNat d)), (2, .int (Int32.ofNat (d + (m + 1)))), (3, .int a), (4, .ref (439 + d)), (6, .int (Int32.ofNat k))] [] h = some (none, h')) ∧ RD h' σ (dg_l (fun p g S => dg_t m (d + 1) (dg_b d a p) g S) f r k S) ∧ Fr (rg_P d) h h' ∧ dg_s (dg_l (fun p g S => dg_t m (d + 1) (dg_b d a p) g S) f r k S)
  | 0, k, S, h, e, R, hS, G => by
    obtain rfl : k = 12 := by omega
    refine ⟨h, fun D => ?_, R, Fr.rfl, hS⟩
    rw [je_189_33b, if_pos (by decide)]
  | r + 1, k, S, h, e, R, hS, G => by
    have hk : k < 12 := by omega
    have st0 : ∀ D, jb_189 rc (D + m + 10) 33 [(0, .ref 336), (1, .int (Int32.ofNat d)), (2, .int (Int32.ofNat (d + (m + 1)))), (3, .int a), (4, .ref (439 + d)), (6, .int (Int32.ofNat k))] [] h = _ := fun D => by
      rw [je_189_33b, if_neg (jk_n12 hk), if_neg (by rw [jk_le (by omega) (by omega)]; omega), rf_isThere G, jk_cI, jk_if0, jF_has_of hk]
    unfold dg_l
    -- nothing at this place
    have skip : dg_n f k = none → (∀ D, jb_189 rc (D + m + 10) 33 [(0, .ref 336), (1, .int (Int32.ofNat d)), (2, .int (Int32.ofNat (d + (m + 1)))), (3, .int a), (4, .ref (439 + d)), (6, .int (Int32.ofNat k))] [] h = jb_189 rc (D + m + 10) 33 [(0, .ref 336), (1, .int (Int32.ofNat d)), (2, .int (Int32.ofNat (d + (m + 1)))), (3, .int a), (4, .ref (439 + d)), (6, .int (Int32.ofNat (k + 1)))] [] h) → ∃ h', (∀ D, jb_189 rc (D + m + 10) 33 [(0, .ref 336), (1, .int (Int32.ofNat d)), (2, .int (Int32.ofNat (d + (m + 1)))), (3, .int a), (4, .ref (439 + d)), (6, .int (Int32.ofNat k))] [] h = some (none, h')) ∧ RD h' σ (dg_l (fun p g S => dg_t m (d + 1) (dg_b d a p) g S) f r (k + 1) (match dg_n f k with
        | some g => dg_t m (d + 1) (dg_b d a k) g S
        | none => S)) ∧ Fr (rg_P d) h h' ∧ dg_s (dg_l (fun p g S => dg_t m (d + 1) (dg_b d a p) g S) f r (k + 1) (match dg_n f k with
        | some g => dg_t m (d + 1) (dg_b d a k) g S
        | none => S)) := fun q s => by
      rw [q]
      obtain ⟨h2, u1, u2, u3, u4⟩ := rg_loop A ih hd a W r (k + 1) S h (by omega) R hS G
      exact ⟨h2, fun D => (s D).trans (u1 D), u2, u3, u4⟩
    by_cases c1 : bt f.2.2 k = true
    · have st1 : ∀ D, jb_189 rc (D + m + 10) 33 [(0, .ref 336), (1, .int (Int32.ofNat d)), (2, .int (Int32.ofNat (d + (m + 1)))), (3, .int a), (4, .ref (439 + d)), (6, .int (Int32.ofNat k))] [] h = jb_189 rc (D + m + 10) 64 [(0, .ref 336), (1, .int (Int32.ofNat d)), (2, .int (Int32.ofNat (d + (m + 1)))), (3, .int a), (4, .ref (439 + d)), (6, .int (Int32.ofNat k))] [.int (rg_k f k)] h := fun D => by
        rw [st0 D, if_pos c1, ro_w G hk, jk_bs]
        unfold rg_k
        by_cases w : f.1 k = 0
        · rw [if_pos w, if_pos w, ro_n G hk, jk_bs, rf_many, jk_cI]
          by_cases b : bc (f.2.1 k) = 2
          · rw [if_pos ((jk_eq2 _).mpr b), if_pos b]
          · rw [if_neg (fun z => b ((jk_eq2 _).mp z)), if_neg b]
        · rw [if_neg w, if_neg w]
      have kn : ¬ rg_k f k < 0 := by unfold rg_k; split <;> (try split) <;> decide
      obtain ⟨kk1, kk2⟩ := rg_k_sk (f := f) hk
      have rf := fun d => rf_refused (rc := rc) G W.1.n (rg_k f k, Int32.ofNat k, 0, 0, 0) d
      dsimp only at rf
      have st2 : ∀ D, jb_189 rc (D + m + 10) 33 [(0, .ref 336), (1, .int (Int32.ofNat d)), (2, .int (Int32.ofNat (d + (m + 1)))), (3, .int a), (4, .ref (439 + d)), (6, .int (Int32.ofNat k))] [] h = _ := fun D => by
        rw [st1 D, je_189_64b, if_neg kn, rf, jk_cI]
      by_cases c2 : jf_ref f false (rg_k f k, Int32.ofNat k, 0, 0, 0) = 0
      · have c3 := kk1.mp c2
        have ek := kk2 c3
        have hn : dg_n f k = some (jf_act f (jn_sk f k, Int32.ofNat k, 0, 0, 0)) := by unfold dg_n; rw [if_pos ⟨c1, c3⟩]
        obtain ⟨W2, l1, l2, -⟩ := dg_n_W W hk hn
        rw [hn]
        dsimp only
        obtain ⟨f0, G0⟩ := R.1.rowx (show d + 1 < 6 by omega)
        obtain ⟨h1, r1, r2, r3⟩ := ro_copies (rc := rc) (a := 439 + d) (b := 439 + (d + 1)) (by omega) G G0
        have R1 := R.row A (show d + 1 < 6 by omega) r3 r2
        obtain ⟨h2, s1, s2, s3⟩ := rf_does (rc := rc) r2 W.1 (rg_k f k, Int32.ofNat k, 0, 0, 0) c2
        dsimp only at s1
        rw [ek] at s2
        have R2 := R1.row A (show d + 1 < 6 by omega) s3 s2
        obtain ⟨h3, x1, x2, x3, x4⟩ := ih (d + 1) (dg_b d a k) _ S h2 (by omega) W2 R2 hS s2
        have F3 : Fr (rg_P d) h h3 := ((r3.mono fun x q => by unfold rg_P; omega).trans (s3.mono fun x q => by unfold rg_P; omega)).trans (x3.mono fun x q => by unfold rg_P at *; omega)
        have G3 : ro_at h3 (439 + d) f := ro_fr F3 (by unfold rg_P; omega) G
        obtain ⟨h4, u1, u2, u3, u4⟩ := rg_loop A ih hd a W r (k + 1) _ h3 (by omega) x2 x4 G3
        refine ⟨h4, fun D => ?_, u2, F3.trans u3, u4⟩
        have x1' := x1 D
        rw [show d + 1 + m = d + (m + 1) by omega] at x1'
        unfold dg_b at x1'
        rw [st2 D, if_pos c2, R.1.g28, jk_bs, jk_succ, m_rows_q R.1.th (by omega) (by decide), jk_bs, jk_mos, r1, jk_cV, R1.1.g28, jk_bs, m_rows_q R1.1.th (by omega) (by decide), jk_bs, jk_mos, s1, jk_cV]
        by_cases d0 : d = 0
        · subst d0
          rw [if_pos rfl] at x1'
          rw [if_pos (show Int32.ofNat 0 = 0 from rfl), x1', jk_cV, jk_succ]
          exact u1 D
        · rw [if_neg d0] at x1'
          rw [if_neg (by rw [jk_0 (by omega)]; exact d0), x1', jk_cV, jk_succ]
          exact u1 D
      · refine skip (by unfold dg_n; rw [if_neg (fun z => c2 (kk1.mpr z.2))]) (fun D => ?_)
        rw [st2 D, if_neg c2, jk_succ]
    · refine skip (by unfold dg_n; rw [if_neg (fun z => c1 z.1)]) (fun D => ?_)
      rw [st0 D, if_neg c1, je_189_64b, if_pos (by decide), jk_succ]
theorem rg_note (A : AWt σ) {m d : Nat} {a : Int32} (hd : d + m ≤ 4) (R : RD h σ S) (hS : dg_s S) (G : ro_at h (439 + d) f) : ∃ h1, (∀ D, jx_C rc (D + m + 10) 189 [.ref 336, .int (Int32.ofNat d), .int (Int32.ofNat (d + m)), .int a] h = jb_189 rc (D + m + 9) 33 [(0, .ref 336), (1, .int (Int32.ofNat d)), (2, .int (Int32.ofNat (d + m))), (3, .int a), (4, .ref (439 + d)), (6, .int (Int32.ofNat 0))] [] h1) ∧ RD h1 σ (dg_note S (bc f.2.2) d a) ∧ Fr (fun x => x = 336) h h1 := by
  have b12 := bc_le f.2.2
  obtain ⟨s1, s2⟩ := id hS
  have st0 : ∀ D, jx_C rc (D + m + 10) 189 [.ref 336, .int (Int32.ofNat d), .int (Int32.ofNat (d + m)), .int a] h = _ := fun D => by
    rw [je_189, if_pos R.1.is, R.1.g28, jk_bs, m_rows_q R.1.th (by omega) (by decide), jk_bs, jk_mos, ro_0 G, jk_bs, rf_many, jk_cI, R.2.1, jk_bs]
  obtain ⟨e1, e2, e3, p1, p2, p3, R3⟩ := R.1.setD A (bc f.2.2) d a
  unfold dg_note
  by_cases c1 : bc f.2.2 < S.1
  · rw [if_pos (Or.inl c1)]
    refine ⟨jx_set h 336 e3, fun D => ?_, R3, Fr.one⟩
    rw [st0 D, if_pos (by rw [jk_lt (by omega) (by omega)]; exact c1), p1, jk_bs, jk_at_self, p2, jk_bs, jk_at_self, p3, jk_bs, jk_set_set, jk_set_set]
    rfl
  · have st1 : ∀ D, jx_C rc (D + m + 10) 189 [.ref 336, .int (Int32.ofNat d), .int (Int32.ofNat (d + m)), .int a] h = _ := fun D => by
      rw [st0 D, if_neg (by rw [jk_lt (by omega) (by omega)]; exact c1), jk_bs]
    by_cases c2 : bc f.2.2 = S.1
    · by_cases c3 : d < S.2.1
      · rw [if_pos (Or.inr ⟨c2, c3⟩)]
        refine ⟨jx_set h 336 e3, fun D => ?_, R3, Fr.one⟩
        rw [st1 D, if_pos (by rw [c2]), R.2.2.1, jk_bs, if_neg (by rw [jk_le (by omega) (by omega)]; omega), p1, jk_bs, jk_at_self, p2, jk_bs, jk_at_self, p3, jk_bs, jk_set_set, jk_set_set]
        rfl
      · rw [if_neg (by omega)]
        refine ⟨h, fun D => ?_, R, Fr.rfl⟩
        rw [st1 D, if_pos (by rw [c2]), R.2.2.1, jk_bs, if_pos (by rw [jk_le (by omega) (by omega)]; omega)]
        rfl
    · rw [if_neg (by omega)]
      refine ⟨h, fun D => ?_, R, Fr.rfl⟩
      rw [st1 D, if_neg (by rw [jk_inj (by omega) (by omega)]; exact c2)]
      rfl
theorem rg_tries (A : AWt σ) : ∀ m, rg_D rc σ m
  | 0 => fun d a f S h hd W R hS G => by
    have b12 := bc_le f.2.2
    obtain ⟨h1, k1, R1, F1⟩ := rg_note (rc := rc) (m := 0) (a := a) A hd R hS G
    refine ⟨h1, fun D => ?_, R1, F1.mono fun x q => Or.inl q, dg_note_s hS (by omega) (by omega) a⟩
    rw [k1 D, je_189_33b, if_neg (by decide), if_pos (by rw [jk_le (by omega) (by omega)]; omega)]
  | m + 1 => fun d a f S h hd W R hS G => by
    have b12 := bc_le f.2.2
    obtain ⟨h1, k1, R1, F1⟩ := rg_note (rc := rc) (m := m + 1) (a := a) A hd R hS G
    obtain ⟨h2, u1, u2, u3, u4⟩ := rg_loop (rc := rc) A (rg_tries A m) hd a W 12 0 _ h1 (by omega) R1 (dg_note_s hS (by omega) (by omega) a) (ro_fr F1 (by omega) G)
    exact ⟨h2, fun D => (k1 D).trans (u1 D), u2, (F1.mono fun x q => Or.inl q).trans u3, u4⟩
theorem rr_fewest (R : RSt h σ) (A : AWt σ) (n w : Int32) : ∃ h', (∀ d, jx_C rc (d + 20) 190 [.ref 336, .int n, .int w] h = some (some (.int (op_fewest σ n w).1), h')) ∧ RSt h' (op_fewest σ n w).2 ∧ rF h h' := by
  unfold op_fewest
  obtain ⟨e', e1, e2, e3⟩ := rr_error (rc := rc) R A (k := 1) (by decide) (K := 1) rfl
  by_cases c0 : jp_hi n 4 = true
  · rw [if_pos c0]
    obtain ⟨k, hk, rfl⟩ := (jp_hi_iff (n := 4) (by decide)).mp c0
    rw [show pn (Int32.ofNat k) = k from jk_cl (by omega)]
    have st : ∀ d, jx_C rc (d + 20) 190 [.ref 336, .int (Int32.ofNat k), .int w] h = _ := fun d => by
      rw [je_190, if_pos R.is, rf_in, jk_cI, jk_if0, show (4 : Int64) = (4 : Int32).toInt64 from rfl, jp_bt_hi, if_pos c0, rf_in, jk_cI, jk_if0, show (2 : Int64) = (2 : Int32).toInt64 from rfl, jp_bt_hi]
    by_cases c1 : jp_hi w 2 = true
    · rw [if_pos c1]
      obtain ⟨f0, G0⟩ := R.rowx (show 0 < 6 by decide)
      obtain ⟨h1, r1, r2, r3⟩ := ro_copies (rc := rc) (a := 338) (b := 439) (by decide) R.F G0
      obtain ⟨R1, F1⟩ := rr_th (i := 0) R A (by decide) r3 r2
      obtain ⟨p1, p2, p3, q1, q2, q3, R2⟩ := R1.setD A 13 9 (-1)
      have G2 : ro_at (jx_set h1 336 p3) 439 (sF σ) := ro_fr Fr.one (by decide) r2
      obtain ⟨h2, u1, u2, u3, -⟩ := rg_tries (rc := rc) A k 0 (-1) (sF σ) (13, 9, -1) _ (by omega) A.W R2 ⟨by show 13 ≤ 100; omega, by show 9 ≤ 100; omega⟩ G2
      rw [dg_ref A.W] at u2
      refine ⟨h2, fun d => ?_, u2.1, (F1.trans (rF.one (by decide) (by decide) Fr.one)).trans (u3.mono fun x q => by unfold rg_P at q; omega)⟩
      have u1' := u1 (d + (4 - k) + 5)
      rw [show d + (4 - k) + 5 + k + 10 = d + 19 by omega, Nat.zero_add] at u1'
      have q1' : jx_pF (jx_at h1 336) 12 29 (.int 13) = some p1 := q1
      have q2' : jx_pF p1 12 30 (.int 9) = some p2 := q2
      have u1'' : jx_C rc (d + 19) 189 [.ref 336, .int 0, .int (Int32.ofNat k), .int (-1)] (jx_set h1 336 p3) = some (none, h2) := u1'
      rw [st d, if_pos c1, R.g1, jk_bs, R.g28, jk_bs, show (0 : Int32) = Int32.ofNat 0 from rfl, m_rows_q R.th (by decide) (by decide), jk_bs, jk_mos, r1, jk_cV, q1', jk_bs, jk_at_self, q2', jk_bs, jk_at_self, q3, jk_bs, jk_set_set, jk_set_set, show Int32.ofNat 0 = (0 : Int32) from rfl, u1'', jk_cV]
      by_cases z0 : w = 0
      · rw [if_pos z0, if_pos z0, u2.2.1, jk_bs]
      · rw [if_neg z0, if_neg z0]
        by_cases z1 : w = 1
        · rw [if_pos z1, if_pos z1, u2.2.2.1, jk_bs]
        · rw [if_neg z1, if_neg z1, u2.2.2.2, jk_bs]
    · rw [if_neg c1]
      refine ⟨e', fun d => ?_, e2, e3⟩
      rw [st d, if_neg c1, e1, jk_cI]
  · rw [if_neg c0]
    refine ⟨e', fun d => ?_, e2, e3⟩
    rw [je_190, if_pos R.is, rf_in, jk_cI, jk_if0, show (4 : Int64) = (4 : Int32).toInt64 from rfl, jp_bt_hi, if_neg c0, e1, jk_cI]
end
