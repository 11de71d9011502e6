/-! REACH: the reference -/
def rq_P (d x : Nat) : Prop := x = 336 ∨ (402 ≤ x ∧ x < 430) ∨ (439 + (d + 1) ≤ x ∧ x < 445)
section
variable {rc : Nat → Nat × (Nat → Int32)} {h h' : jxH} {σ : jSt} {f G : jF}
def RQ (h : jxH) (σ : jSt) (G : jF) : Prop := RSt h σ ∧ du_I h (TT G)
theorem RQ.row (R : RQ h σ G) (A : AWt σ) {i : Nat} (hi : i < 6) (F : Fr (fun x => x = 439 + i) h h') {g : jF} (K : ro_at h' (439 + i) g) : RQ h' σ G :=
  ⟨(rr_th R.1 A hi F K).1, tl_fr F (by omega) R.2.1, by rw [F.2.2 _ (by omega)]; exact R.2.2⟩
def rq_D (rc : Nat → Nat × (Nat → Int32)) (σ : jSt) (G : jF) (m : Nat) : Prop := ∀ (d : Nat) (f : jF) (h : jxH), d + m ≤ 3 → jf_W f → RQ h σ G → ro_at h (439 + d) f → ∃ h', (∀ D, jx_C rc (D + m + 19) 191 [.ref 336, .int (Int32.ofNat d), .int (Int32.ofNat (d + m)), .int (Int32.ofNat (bc G.2.2))] h = some (some (.int (jk_b (rch (TT G) m f))), h')) ∧ RQ h' σ G ∧ Fr (rq_P d) h h'
theorem rq_loop (A : AWt σ) {m d : Nat} (ih : rq_D rc σ G m) (hd : d + (m + 1) ≤ 3) (W : jf_W f) : ∀ (r k : Nat) (h : jxH), k + r = 12 → RQ h σ G → ro_at h (439 + d) f → ∃ h', (∀ D, jb_191 rc (D + m + 19) 24 [(0, .ref 336), (1, .int (Int32.ofNat d)), (2, .int (Int32.ofNat (d + (m + 1)))), (3, .int (Int32.ofNat (bc G.2.2))), (4, .ref (439 + d)), (5, .int (Int32.ofNat k))] [] h = some (some (.int (jk_b (if rch_l (rch (TT G) m) f r k = true then true else rch (TT G) m (jf_mirror f)))), h')) ∧ RQ h' σ G ∧ Fr (rq_P d) h h' := by
  intro r
  -- a move that isn't refused
  have up : ∀ (h : jxH) (mv p : Int32), RQ h σ G → ro_at h (439 + d) f → ¬ mv < 0 → jf_ref f false (mv, p, 0, 0, 0) = 0 → ∃ h', (∀ D, jb_191 rc (D + m + 19) 57 [(0, .ref 336), (1, .int (Int32.ofNat d)), (2, .int (Int32.ofNat (d + (m + 1)))), (3, .int (Int32.ofNat (bc G.2.2))), (4, .ref (439 + d)), (5, .int p)] [.int mv] h = (if rch (TT G) m (jf_act f (mv, p, 0, 0, 0)) = true then some (some (.int 1), h') else jb_191 rc (D + m + 19) 24 [(0, .ref 336), (1, .int (Int32.ofNat d)), (2, .int (Int32.ofNat (d + (m + 1)))), (3, .int (Int32.ofNat (bc G.2.2))), (4, .ref (439 + d)), (5, .int (p + 1))] [] h')) ∧ RQ h' σ G ∧ Fr (rq_P d) h h' := fun h mv p R K n0 c2 => by
    obtain ⟨f0, G0⟩ := R.1.rowx (show d + 1 < 6 by omega)
    obtain ⟨h1, r1, r2, r3⟩ := ro_copies (rc := rc) (a := 439 + d) (b := 439 + (d + 1)) (by omega) K G0
    have R1 := R.row A (show d + 1 < 6 by omega) r3 r2
    obtain ⟨h2, s1, s2, s3⟩ := rf_does (rc := rc) r2 W.1 (mv, p, 0, 0, 0) c2
    dsimp only at s1
    have R2 := R1.row A (show d + 1 < 6 by omega) s3 s2
    obtain ⟨h3, x1, x2, x3⟩ := ih (d + 1) _ h2 (by omega) (jf_W_act W c2) R2 s2
    have F3 : Fr (rq_P d) h h3 := ((r3.mono fun x q => by unfold rq_P; omega).trans (s3.mono fun x q => by unfold rq_P; omega)).trans (x3.mono fun x q => by unfold rq_P at *; omega)
    refine ⟨h3, fun D => ?_, x2, F3⟩
    have rf := fun d' => rf_refused (rc := rc) K W.1.n (mv, p, 0, 0, 0) d'
    dsimp only at rf
    have x1' := x1 D
    rw [show d + 1 + m = d + (m + 1) by omega] at x1'
    rw [je_191_57b, if_neg n0, rf, jk_cI, if_pos c2, R.1.g28, jk_bs, jk_succ, m_rows_q R.1.th (by omega) (by decide), jk_bs, jk_mos, r1, jk_cV, R1.1.g28, jk_bs, m_rows_q R1.1.th (by omega) (by decide), jk_bs, jk_mos, s1, jk_cV, x1', jk_cI, jk_if0, if_pos jk_b1]
  induction r with
  | zero =>
    intro k h e R K
    obtain rfl : k = 12 := by omega
    have m6 : jf_ref f false (6, 12, 0, 0, 0) = 0 := by unfold jf_ref; simp
    obtain ⟨h1, a1, a2, a3⟩ := up h 6 12 R K (by decide) m6
    refine ⟨h1, fun D => ?_, a2, a3⟩
    have a1' := a1 D
    rw [show jf_act f (6, 12, 0, 0, 0) = jf_mirror f by unfold jf_act; simp] at a1'
    rw [if_neg (show ¬ rch_l (rch (TT G) m) f 0 12 = true by unfold rch_l; decide)]
    rw [je_191_24b, if_neg (by decide), if_pos (by decide), show Int32.ofNat 12 = (12 : Int32) from rfl, a1']
    by_cases z : rch (TT G) m (jf_mirror f) = true
    · rw [if_pos z, z]; rfl
    · rw [if_neg z, je_191_24b, if_pos (by decide), if_pos jk_r0']
      have : rch (TT G) m (jf_mirror f) = false := by cases w : rch (TT G) m (jf_mirror f) <;> simp_all
      rw [this]; rfl
  | succ r ihr =>
    intro k h e R K
    have hk : k < 12 := by omega
    have e0 : rch_l (rch (TT G) m) f (r + 1) k = (match dg_n f k with
      | some g => if rch (TT G) m g = true then true else rch_l (rch (TT G) m) f r (k + 1)
      | none => rch_l (rch (TT G) m) f r (k + 1)) := rfl
    have st0 : ∀ D, jb_191 rc (D + m + 19) 24 [(0, .ref 336), (1, .int (Int32.ofNat d)), (2, .int (Int32.ofNat (d + (m + 1)))), (3, .int (Int32.ofNat (bc G.2.2))), (4, .ref (439 + d)), (5, .int (Int32.ofNat k))] [] h = _ := fun D => by
      rw [je_191_24b, if_neg (by rw [show (12 : Int32) = Int32.ofNat 12 from rfl, jk_lt (by decide) (by omega)]; omega), if_neg (by rw [show (12 : Int32) = Int32.ofNat 12 from rfl, jk_inj (by omega) (by decide)]; omega), rf_isThere K, jk_cI, jk_if0, jF_has_of hk]
    by_cases c1 : bt f.2.2 k = true
    · have st1 : ∀ D, jb_191 rc (D + m + 19) 24 [(0, .ref 336), (1, .int (Int32.ofNat d)), (2, .int (Int32.ofNat (d + (m + 1)))), (3, .int (Int32.ofNat (bc G.2.2))), (4, .ref (439 + d)), (5, .int (Int32.ofNat k))] [] h = jb_191 rc (D + m + 19) 57 [(0, .ref 336), (1, .int (Int32.ofNat d)), (2, .int (Int32.ofNat (d + (m + 1)))), (3, .int (Int32.ofNat (bc G.2.2))), (4, .ref (439 + d)), (5, .int (Int32.ofNat k))] [.int (rg_k f k)] h := fun D => by
        rw [st0 D, if_pos c1, ro_w K hk, jk_bs]
        unfold rg_k
        by_cases w : f.1 k = 0
        · rw [if_pos w, if_pos w, ro_n K hk, jk_bs, rf_many, jk_cI]
          by_cases b : bc (f.2.1 k) = 2
          · rw [if_pos ((jk_eq2 _).mpr b), if_pos b]
          · rw [if_neg (fun z => b ((jk_eq2 _).mp z)), if_neg b]
        · rw [if_neg w, if_neg w]
      have kn : ¬ rg_k f k < 0 := by unfold rg_k; split <;> (try split) <;> decide
      obtain ⟨kk1, kk2⟩ := rg_k_sk (f := f) hk
      by_cases c2 : jf_ref f false (rg_k f k, Int32.ofNat k, 0, 0, 0) = 0
      · have c3 := kk1.mp c2
        have ek := kk2 c3
        have hn : dg_n f k = some (jf_act f (jn_sk f k, Int32.ofNat k, 0, 0, 0)) := by unfold dg_n; rw [if_pos ⟨c1, c3⟩]
        obtain ⟨h1, a1, a2, a3⟩ := up h (rg_k f k) (Int32.ofNat k) R K kn c2
        rw [ek] at a1
        by_cases y : rch (TT G) m (jf_act f (jn_sk f k, Int32.ofNat k, 0, 0, 0)) = true
        · have e1 : rch_l (rch (TT G) m) f (r + 1) k = true := by rw [e0, hn]; exact if_pos y
          refine ⟨h1, fun D => ?_, a2, a3⟩
          rw [st1, ek, a1, if_pos y, if_pos e1]
          rfl
        · have e1 : rch_l (rch (TT G) m) f (r + 1) k = rch_l (rch (TT G) m) f r (k + 1) := by rw [e0, hn]; exact if_neg y
          obtain ⟨h2, u1, u2, u3⟩ := ihr (k + 1) h1 (by omega) a2 (ro_fr a3 (fun w => by unfold rq_P at w; omega) K)
          refine ⟨h2, fun D => ?_, u2, a3.trans u3⟩
          rw [st1, ek, a1, if_neg y, jk_succ, e1]
          exact u1 D
      · have e1 : rch_l (rch (TT G) m) f (r + 1) k = rch_l (rch (TT G) m) f r (k + 1) := by rw [e0, show dg_n f k = none by unfold dg_n; rw [if_neg (fun z => c2 (kk1.mpr z.2))]]
        obtain ⟨h2, u1, u2, u3⟩ := ihr (k + 1) h (by omega) R K
        refine ⟨h2, fun D => ?_, u2, u3⟩
        have rf := fun d' => rf_refused (rc := rc) K W.1.n (rg_k f k, Int32.ofNat k, 0, 0, 0) d'
        dsimp only at rf
        rw [st1, je_191_57b, if_neg kn, rf, jk_cI, if_neg c2, jk_succ, e1]
        exact u1 D
    · have e1 : rch_l (rch (TT G) m) f (r + 1) k = rch_l (rch (TT G) m) f r (k + 1) := by rw [e0, show dg_n f k = none by unfold dg_n; rw [if_neg (fun z => c1 z.1)]]
      obtain ⟨h2, u1, u2, u3⟩ := ihr (k + 1) h (by omega) R K
      refine ⟨h2, fun D => ?_, u2, u3⟩
      rw [st0 D, if_neg c1, je_191_57b, if_pos (by decide), jk_succ, e1]
      exact u1 D
theorem rq_comes (A : AWt σ) (V : jf_W G) : ∀ m, rq_D rc σ G m
  | 0 => fun d f h hd W R K => by
    have b1 := bc_le f.2.2
    have b2 := bc_le G.2.2
    have st : ∀ D, jx_C rc (D + 0 + 19) 191 [.ref 336, .int (Int32.ofNat d), .int (Int32.ofNat (d + 0)), .int (Int32.ofNat (bc G.2.2))] h = _ := fun D => by
      rw [je_191, if_pos R.1.is, R.1.g28, jk_bs, m_rows_q R.1.th (by omega) (by decide), jk_bs, jk_mos, if_pos (show Int32.ofNat d = Int32.ofNat (d + 0) from rfl), ro_0 K, jk_bs, rf_many, jk_cI]
    by_cases c : bc f.2.2 = bc G.2.2
    · obtain ⟨h1, r1, r2, r3, r4, r5⟩ := rr_isDue (rc := rc) (b := 439 + d) R.1 A W V (by omega) (by omega) K R.2
      refine ⟨h1, fun D => ?_, ⟨r2, r4⟩, r5.mono fun x hx => by unfold rq_P; omega⟩
      rw [st D, if_pos (by rw [c]), r1, jk_cI]
      unfold rch
      by_cases z : TT f = TT G
      · rw [if_pos z, if_pos z, if_neg (by decide), if_pos jk_b1]; rfl
      · rw [if_neg z, if_neg z, if_pos rfl, if_pos jk_r0']; rfl
    · refine ⟨h, fun D => ?_, R, Fr.rfl⟩
      rw [st D, if_neg (by rw [jk_inj (by omega) (by omega)]; exact c), if_pos jk_r0']
      unfold rch
      rw [if_neg (fun z => c (TT_same W V z).1)]
      rfl
  | m + 1 => fun d f h hd W R K => by
    obtain ⟨h1, u1, u2, u3⟩ := rq_loop (rc := rc) A (rq_comes A V m) hd W 12 0 h (by omega) R K
    refine ⟨h1, fun D => ?_, u2, u3⟩
    rw [show D + (m + 1) + 19 = (D + m + 19) + 1 by omega, je_191, if_pos R.1.is, R.1.g28, jk_bs, m_rows_q R.1.th (by omega) (by decide), jk_bs, jk_mos, if_neg (by rw [jk_inj (by omega) (by omega)]; omega)]
    exact u1 D
theorem rq_first (A : AWt σ) (V : jf_W G) (W : jf_W f) {j : Nat} (hj : j < 4) (hs : σ.2.2.1 j = some G) : ∀ (m k : Nat) (h : jxH), k + m ≤ 4 → RQ h σ G → ro_at h 439 f → ∃ h', (∀ D n, n < 4 → n + 1 = k + m → jb_192 rc (D + 22) 37 [(0, .ref 336), (1, .int (Int32.ofNat j)), (2, .int (Int32.ofNat n)), (3, .int (Int32.ofNat k))] [] h = (match rc_first (TT G) f m k with
    | some x => some (some (.int (Int32.ofNat x)), h')
    | none => jx_cI (jx_C rc (D + 22) 73 [.ref 336, .int (2 : Int32)] h') fun v2 h1 => some (some (.int v2), h1))) ∧ RQ h' σ G ∧ Fr (rq_P 0) h h'
  | 0, k, h, e, R, K => by
    refine ⟨h, fun D n n4 e2 => ?_, R, Fr.rfl⟩
    rw [je_192_37, if_pos (by rw [jk_lt (by omega) (by omega)]; omega)]
    rfl
  | m + 1, k, h, e, R, K => by
    obtain ⟨h1, r1, r2, r3⟩ := rq_comes (rc := rc) A V k 0 f h (by omega) W R K
    obtain ⟨r, -, a⟩ := R.1.sh
    have st : ∀ D n, n < 4 → n + 1 = k + (m + 1) → jb_192 rc (D + 22) 37 [(0, .ref 336), (1, .int (Int32.ofNat j)), (2, .int (Int32.ofNat n)), (3, .int (Int32.ofNat k))] [] h = (if jk_b (rch (TT G) k f) = 0 then jb_192 rc (D + 22) 37 [(0, .ref 336), (1, .int (Int32.ofNat j)), (2, .int (Int32.ofNat n)), (3, .int (Int32.ofNat k + 1))] [] h1 else some (some (.int (Int32.ofNat k)), h1)) := fun D n n4 e2 => by
      have := r1 (D + (3 - k))
      rw [show D + (3 - k) + k + 19 = D + 22 by omega, Nat.zero_add] at this
      have this : jx_C rc (D + 22) 191 [.ref 336, .int (0 : Int32), .int (Int32.ofNat k), .int (Int32.ofNat (bc G.2.2))] h = _ := this
      rw [je_192_37, if_neg (by rw [jk_lt (by omega) (by omega)]; omega), R.1.g22, jk_bs, m_rows_q r hj (by decide), jk_bs, jk_mos, ro_0 ((a j hj).2 G hs), jk_bs, rf_many, jk_cI, this, jk_cI]
    by_cases c : rch (TT G) k f = true
    · refine ⟨h1, fun D n n4 e2 => ?_, r2, r3⟩
      rw [st D n n4 e2, jk_if0, if_pos c, show rc_first (TT G) f (m + 1) k = some k from if_pos c]
    · obtain ⟨h2, t1, t2, t3⟩ := rq_first A V W hj hs m (k + 1) h1 (by omega) r2 (ro_fr r3 (fun w => by unfold rq_P at w; omega) K)
      refine ⟨h2, fun D n n4 e2 => ?_, t2, r3.trans t3⟩
      rw [st D n n4 e2, jk_if0, if_neg c, jk_succ, show rc_first (TT G) f (m + 1) k = rc_first (TT G) f m (k + 1) from if_neg c]
      exact t1 D n n4 (by omega)
theorem rr_reach (R : RSt h σ) (A : AWt σ) (k n : Int32) : ∃ h', (∀ d, jx_C rc (d + 23) 192 [.ref 336, .int k, .int n] h = some (some (.int (op_reach σ k n).1), h')) ∧ RSt h' (op_reach σ k n).2 ∧ rF h h' := by
  unfold op_reach
  obtain ⟨e', e1, e2, e3⟩ := rr_error (rc := rc) R A (k := 1) (by decide) (K := 1) rfl
  by_cases c0 : jp_four k = true
  · rw [if_pos c0]
    obtain ⟨j, hj, rfl⟩ := jp_four_iff.mp c0
    rw [pn_4 hj]
    have st0 : ∀ d, jx_C rc (d + 23) 192 [.ref 336, .int (Int32.ofNat j), .int n] h = _ := fun d => by
      rw [je_192, if_pos R.is, rf_four, jk_cI, jk_if0, if_pos c0, rf_in, jk_cI, jk_if0, show (3 : Int64) = (3 : Int32).toInt64 from rfl, jp_bt_hi]
    by_cases c1 : jp_hi n 3 = true
    · rw [if_pos c1]
      obtain ⟨m, hm, rfl⟩ := (jp_hi_iff (n := 3) (by decide)).mp c1
      rw [show pn (Int32.ofNat m) = m from jk_cl (by omega)]
      obtain ⟨r, ⟨B, b1, b2⟩, a⟩ := R.sh
      have st : ∀ d, jx_C rc (d + 23) 192 [.ref 336, .int (Int32.ofNat j), .int (Int32.ofNat m)] h = _ := fun d => by
        rw [st0 d, if_pos c1, R.g23, jk_bs, b1, jk_aI hj (by decide), jk_bs, b2 j hj, jk_if0]
      cases hs : σ.2.2.1 j with
      | none =>
        obtain ⟨f', f1, f2, f3⟩ := rr_error (rc := rc) R A (k := 7) (by decide) (K := 7) rfl
        refine ⟨f', fun d => ?_, f2, f3⟩
        rw [st d, hs, if_neg (by decide), f1, jk_cI]
      | some g =>
        have V := A.2.1 j g hj hs
        obtain ⟨h1, s1, R1, F1, I1, -⟩ := rr_due (rc := rc) (b := 431 + j) R A V (by omega) (by omega) ((a j hj).2 g hs)
        obtain ⟨f0, G0⟩ := R1.rowx (show 0 < 6 by decide)
        obtain ⟨h2, t1, t2, t3⟩ := ro_copies (rc := rc) (a := 338) (b := 439) (by decide) R1.F G0
        obtain ⟨R2, F2⟩ := rr_th (i := 0) R1 A (by decide) t3 t2
        have Q2 : RQ h2 σ g := ⟨R2, tl_fr t3 (by omega) I1.1, by rw [t3.2.2 _ (by omega)]; exact I1.2⟩
        obtain ⟨h3, u1, u2, u3⟩ := rq_first (rc := rc) A V A.W hj hs (m + 1) 0 h2 (by omega) Q2 t2
        have F3 : rF h h3 := (F1.trans F2).trans (u3.mono fun x q => by unfold rq_P at q; omega)
        have st2 : ∀ d, jx_C rc (d + 23) 192 [.ref 336, .int (Int32.ofNat j), .int (Int32.ofNat m)] h = (match rc_first (TT g) (sF σ) (m + 1) 0 with
          | some x => some (some (.int (Int32.ofNat x)), h3)
          | none => jx_cI (jx_C rc (d + 22) 73 [.ref 336, .int (2 : Int32)] h3) fun v2 h1 => some (some (.int v2), h1)) := fun d => by
          refine Eq.trans ?_ (u1 d m (by omega) (by omega))
          rw [st d, hs, if_pos (show (some g).isSome = true from rfl), R.g22, jk_bs, m_rows_q r hj (by decide), jk_bs, jk_mos, s1 (d + 4), jk_cV, R1.g1, jk_bs, R1.g28, jk_bs, show (0 : Int32) = Int32.ofNat 0 from rfl, m_rows_q R1.th (by decide) (by decide), jk_bs, jk_mos, t1, jk_cV]
        dsimp only
        cases e : rc_first (TT g) (sF σ) (m + 1) 0 with
        | some x =>
          refine ⟨h3, fun d => ?_, u2.1, F3⟩
          rw [st2 d, e]
        | none =>
          obtain ⟨f', f1, f2, f3⟩ := rr_error (rc := rc) u2.1 A (k := 2) (by decide) (K := 2) rfl
          refine ⟨f', fun d => ?_, f2, F3.trans f3⟩
          rw [st2 d, e]
          dsimp only
          rw [f1, jk_cI]
    · rw [if_neg c1]
      refine ⟨e', fun d => ?_, e2, e3⟩
      rw [st0 d, if_neg c1, e1, jk_cI]
  · rw [if_neg c0]
    refine ⟨e', fun d => ?_, e2, e3⟩
    rw [je_192, if_pos R.is, rf_four, jk_cI, jk_if0, if_neg c0, e1, jk_cI]
end
