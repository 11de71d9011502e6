/-! forest(): the class -/
theorem ty_w_val {p : jP} {i z : Nat} {w : Int32} (h : ty_w p i = some (z, w)) : ∃ r, r ≤ 2 ∧ (∀ t, t < r → ty_d p (ty_0 p i + t) = true) ∧ z = ty_0 p i - i + r ∧ w = if ty_m p i = true then -ty_v p r (ty_0 p i) 0 else ty_v p r (ty_0 p i) 0 := by
  unfold ty_w at h
  split at h
  · cases h
  split at h
  · cases h
  rename_i c2
  split at h
  · injection h with h
    injection h with h1 h2
    exact ⟨_, by omega, fun t ht => ty_dc_d t ht, h1.symm, h2.symm⟩
  · cases h
theorem upd_upd (f : Nat → Int32) (k : Nat) (x y : Int32) : upd (upd f k x) k y = upd f k y := funext fun j => by unfold upd; split <;> rfl
theorem ty_f_nil (f : jF) (w : Int32) : jf_setw (jf_grow f (jf_free f) 0) (jf_free f) w = ty_f f [] w := by
  unfold ty_f jf_setw jf_grow
  rw [upd_upd]
theorem ty_f_cons (f : jF) (q : Nat) (r : List Nat) (w : Int32) (h : jf_free f ≠ q) : jf_setw (jf_join (jf_grow f (jf_free f) 0) (jf_free f) q) (jf_free f) w = ty_f f (q :: r) w := by
  show _ = jf_join (jf_grow f (jf_free f) w) q (jf_free f)
  rw [jf_join_comm _ (fun e => h e.symm)]
  unfold jf_setw jf_join jf_grow
  rw [upd_upd]
/-- those that wait, by their holders -/
def ty_S (hd : Nat → Int32) (f : jF) : List Nat → Prop
  | [] => True
  | c :: st => c < 12 ∧ bt f.2.2 c = true ∧ hd c = jk_on st.head? ∧ ty_S hd f st
theorem ty_S_push {hd : Nat → Int32} {f f' : jF} {c : Nat} {x : Int32} (hc : c < 12) (fr : bt f.2.2 c = false) (e : f'.2.2 = f.2.2 ||| jk_bit c) : ∀ {st : List Nat}, ty_S hd f st → ty_S (upd hd c x) f' st
  | [], _ => trivial
  | a :: st, h => by
    obtain ⟨h1, h2, h3, h4⟩ := h
    refine ⟨h1, by rw [e, bt_set _ hc h1, h2]; rfl, ?_, ty_S_push hc fr e h4⟩
    rw [upd_ne _ _ (fun q => by rw [q, fr] at h2; cases h2)]
    exact h3
theorem ty_f_set (f : jF) (st : List Nat) (w : Int32) : (ty_f f st w).2.2 = f.2.2 ||| jk_bit (jf_free f) := by
  unfold ty_f
  split <;> rfl
theorem ty_f_W {f : jF} (W : jf_W f) {st : List Nat} {hd : Nat → Int32} (S : ty_S hd f st) (hb : bc f.2.2 < 12) {w : Int32} (hw : jp_wt w = true) : jf_W (ty_f f st w) ∧ bc (ty_f f st w).2.2 = bc f.2.2 + 1 ∧ jf_free f < 12 ∧ lo (f.2.2 ^^^ (-1)) = some (jf_free f) ∧ bt f.2.2 (jf_free f) = false := by
  obtain ⟨c, hc⟩ := bc_free hb
  obtain ⟨c1, c2, -⟩ := lo_not hc
  have e := jf_free_of hc
  rw [e]
  refine ⟨?_, ?_, c1, hc, c2⟩
  · cases st with
    | nil =>
      show jf_W (jf_grow f (jf_free f) w)
      rw [e]; exact jf_W_grow W hc hw
    | cons q r =>
      obtain ⟨h1, h2, -⟩ := S
      exact (jf_W_line W h1 h2 hb hw).1
  · rw [ty_f_set, e]
    exact bc_set_eq c1 c2
def ty_P (x : Nat) : Prop := (5 ≤ x ∧ x < 8) ∨ x = 322
def ty_ans : Nat ⊕ jF → Int32
  | .inl k => Int32.ofNat k
  | .inr _ => -1
section
variable {rc : Nat → Nat × (Nat → Int32)} {h h' : jxH} {σ : jSt} {p : jP} {P : Nat → Prop}
theorem tp_fr2 (F : Fr ty_P h h') {hd : Nat → Int32} (G : jx_at h' 322 = jxI 0 12 hd) (H : tp_at h p) : tp_at h' p := by
  obtain ⟨o, ⟨g, e, q⟩, -⟩ := H
  exact ⟨(F.2.2 320 (by unfold ty_P; omega)).trans o, ⟨g, (F.2.2 321 (by unfold ty_P; omega)).trans e, q⟩, hd, G⟩
/-- hang() -/
theorem tp_hang (H : tp_at h p) {hd : Nat → Int32} (Hd : jx_at h 322 = jxI 0 12 hd) {f : jF} (G : fo_at h 5 f) {c : Nat} (hc : lo (f.2.2 ^^^ (-1)) = some c) {st : List Nat} (S : ty_S hd f st) : ∃ h', (∀ d, jx_C rc (d + 3) 298 [.ref 320, .ref 5, .int (jk_on st.head?)] h = some (some (.int (Int32.ofNat c)), h')) ∧ Fr ty_P h h' ∧ jx_at h' 322 = jxI 0 12 (upd hd c (jk_on st.head?)) ∧ fo_at h' 5 (match st with
    | [] => jf_grow f c 0
    | q :: _ => jf_join (jf_grow f c 0) c q) := by
  obtain ⟨c1, c2, -⟩ := lo_not hc
  obtain ⟨h1, r1, r2, r3⟩ := fo_grow (rc := rc) G hc 0
  have key : ∃ h2, (∀ d, jx_C rc (d + 1) 241 [.ref 5, .int (Int32.ofNat c), .int (jk_on st.head?)] h1 = some (none, h2)) ∧ Fr (jI 5 3) h1 h2 ∧ fo_at h2 5 (match st with
      | [] => jf_grow f c 0
      | q :: _ => jf_join (jf_grow f c 0) c q) := by
    cases st with
    | nil => exact ⟨h1, fun d => fo_join_no r2 (by decide) d, Fr.rfl, r2⟩
    | cons q r =>
      obtain ⟨h2, s1, s2, s3⟩ := fo_join (rc := rc) r2 c1 S.1
      exact ⟨h2, s1, s3, s2⟩
  obtain ⟨h2, s1, s2, s3⟩ := key
  have F2 : Fr (jI 5 3) h h2 := r3.trans s2
  have o : jx_at h2 320 = jx_at h 320 := F2.2.2 _ (fun z => by have := z.2; omega)
  have q : jx_at h2 322 = jxI 0 12 hd := (F2.2.2 _ (fun z => by have := z.2; omega)).trans Hd
  have F3 : Fr (fun x => x = 322) h2 (jx_set h2 322 (jxI 0 12 (upd hd c (jk_on st.head?)))) := Fr.one
  refine ⟨jx_set h2 322 (jxI 0 12 (upd hd c (jk_on st.head?))), fun d => ?_, (F2.mono fun x z => Or.inl ⟨z.1, by have := z.2; omega⟩).trans (F3.mono fun x z => Or.inr z), jk_at_self .., fo_fr F3 (fun x a b => by omega) s3⟩
  rw [je_298, if_pos (tp_is H), r1, jk_cI, s1, jk_cV, cl_isPlace, jk_cI, jp_place_of c1, jk_if0, if_pos rfl, o, tp_g1 H, jk_bs, q, jk_sI c1 (by decide), jk_bs]
theorem tp_run (W : p_W p) : ∀ (m i t : Nat) (st : List Nat) (f : jF) (h : jxH) (hd : Nat → Int32), p.1 < m + i → i ≤ p.1 → t ≤ i → ty_s p i = i → tp_at h p → jx_at h 322 = jxI 0 12 hd → fo_at h 5 f → jf_W f → ty_S hd f st → (i < p.1 ∨ st ≠ [] ∨ bc f.2.2 = 0) → ∃ h', (∀ d, jb_297 rc (d + 5) 12 [(0, .ref 320), (1, .ref 5), (2, .int (jk_on st.head?)), (3, .int 0), (4, .int (Int32.ofNat i)), (5, .int (Int32.ofNat t))] [] h = some (some (.int (ty_ans (ty_run p m i st f))), h')) ∧ Fr ty_P h h' ∧ (∃ hd', jx_at h' 322 = jxI 0 12 hd') ∧ (∃ g, fo_at h' 5 g) ∧ ∀ g, ty_run p m i st f = .inr g → fo_at h' 5 g ∧ jf_W g
  | 0, i, t, st, f, h, hd, l, l2, _, _, _, _, _, _, _, _ => by omega
  | m + 1, i, t, st, f, h, hd, l, l2, lt, fix, H, Hd, G, Wf, S, pre => by
    have hp := W.1
    have hl : jx_gI (jx_at h 320) 7 2 = some (Int32.ofNat p.1) := tp_len H
    have b12 := bc_le f.2.2
    have on0 : ∀ q r, st = q :: r → jk_on st.head? = Int32.ofNat q := fun q r e => by rw [e]; rfl
    by_cases ci : i < p.1
    · have t120 : ¬ (120 : Int32) ≤ Int32.ofNat t := by rw [show (120 : Int32) = Int32.ofNat 120 from rfl, jk_le (by decide) (by omega)]; omega
      have hc : ty_c p i = p.2 i := by unfold ty_c; rw [if_pos ci]
      have st1 : ∀ d, jb_297 rc (d + 5) 12 [(0, .ref 320), (1, .ref 5), (2, .int (jk_on st.head?)), (3, .int 0), (4, .int (Int32.ofNat i)), (5, .int (Int32.ofNat t))] [] h = _ := fun d => by
        rw [je_297_12, if_neg t120, hl, jk_bs, if_neg (by rw [jk_le (by omega) (by omega)]; omega), tp_byte H hp (by omega), jk_cI, hc, if_pos rfl]
      unfold ty_run
      by_cases c40 : p.2 i = 40
      · rw [if_pos ⟨ci, c40⟩]
        have st2 := fun d => (st1 d).trans (if_pos c40)
        have fs := fun d => fo_size (rc := rc) G Wf.1.s d
        by_cases c12 : bc f.2.2 = 12
        · rw [if_pos c12]
          refine ⟨h, fun d => ?_, Fr.rfl, ⟨_, Hd⟩, ⟨_, G⟩, fun g q => by cases q⟩
          rw [st2 d, fs, jk_cI, if_pos (by rw [jk_12 (by omega)]; omega), if_neg (by rw [c40]; decide)]
          rfl
        · rw [if_neg c12]
          obtain ⟨c, hcf⟩ := bc_free (x := f.2.2) (by omega)
          obtain ⟨c1, c2, -⟩ := lo_not hcf
          have ef := jf_free_of hcf
          obtain ⟨h1, r1, F1, Hd1, G1⟩ := tp_hang (rc := rc) H Hd G hcf S
          have H1 := tp_fr2 F1 Hd1 H
          have S1 : ∀ w, ty_S (upd hd c (jk_on st.head?)) (ty_f f st w) (c :: st) := fun w => by
            refine ⟨c1, ?_, upd_at _ _ _, ty_S_push c1 c2 (by rw [ty_f_set, ef]) S⟩
            rw [ty_f_set, ef, bt_set _ c1 c1]; simp
          have li := ty_s_le (p := p) (i := i + 1) (by omega)
          have st3 : ∀ d, jb_297 rc (d + 5) 12 [(0, .ref 320), (1, .ref 5), (2, .int (jk_on st.head?)), (3, .int 0), (4, .int (Int32.ofNat i)), (5, .int (Int32.ofNat t))] [] h = jb_297 rc (d + 5) 12 [(0, .ref 320), (1, .ref 5), (2, .int (Int32.ofNat c)), (3, .int 1), (4, .int (Int32.ofNat (ty_s p (i + 1)))), (5, .int (Int32.ofNat (t + 1)))] [] h1 := fun d => by
            rw [st2 d, fs, jk_cI, if_neg (by rw [jk_12 (by omega)]; omega), r1, jk_cI, jk_succ, tp_skip H1 hp (by omega), jk_cI, jk_succ]
          generalize hi1 : ty_s p (i + 1) = i1 at *
          have hl1 : jx_gI (jx_at h1 320) 7 2 = some (Int32.ofNat p.1) := tp_len H1
          by_cases cj : i1 < p.1
          · have st4 : ∀ d, jb_297 rc (d + 5) 12 [(0, .ref 320), (1, .ref 5), (2, .int (jk_on st.head?)), (3, .int 0), (4, .int (Int32.ofNat i)), (5, .int (Int32.ofNat t))] [] h = _ := fun d => by
              rw [st3 d, je_297_12, if_neg (by rw [show (120 : Int32) = Int32.ofNat 120 from rfl, jk_le (by decide) (by omega)]; omega), hl1, jk_bs, if_neg (by rw [jk_le (by omega) (by omega)]; omega), tp_byte H1 hp (by omega), jk_cI, if_neg (by decide), tp_size H1 W (by omega), jk_cI]
            cases hw : ty_w p i1 with
            | none =>
              refine ⟨h1, fun d => ?_, F1, ⟨_, Hd1⟩, ⟨_, G1⟩, fun g q => by cases q⟩
              rw [st4 d, show ty_z p i1 = 0 by unfold ty_z; rw [hw], if_pos (show Int32.ofNat 0 = 0 from rfl)]
              rfl
            | some q =>
              obtain ⟨z, w⟩ := q
              obtain ⟨z1, z3, zn, hw2⟩ := ty_w_some W hw
              obtain ⟨r, r2, rd, ez, ew⟩ := ty_w_val hw
              obtain ⟨W2, b2, -, -, -⟩ := ty_f_W Wf S (by omega) hw2
              have G1' : ∃ g, fo_at h1 5 g ∧ bt g.2.2 c = true ∧ jf_setw g c w = ty_f f st w := by
                cases st with
                | nil => exact ⟨_, G1, by show bt (f.2.2 ||| jk_bit c) c = true; rw [bt_set _ c1 c1]; simp, by rw [← ty_f_nil, ef]⟩
                | cons a r => exact ⟨_, G1, by show bt (f.2.2 ||| jk_bit c) c = true; rw [bt_set _ c1 c1]; simp, by
                    have := ty_f_cons f a r w (by rw [ef]; intro e; have := S.2.1; rw [← e, c2] at this; cases this)
                    rw [ef] at this; exact this⟩
              obtain ⟨g, g1, g2, g3⟩ := G1'
              obtain ⟨h2, s1, s2, s3⟩ := fo_setWeight (rc := rc) g1 c1 g2 w
              rw [g3] at s2
              have F2 : Fr ty_P h h2 := F1.trans (s3.mono fun x z => Or.inl ⟨z.1, by have := z.2; omega⟩)
              have Hd2 : jx_at h2 322 = jxI 0 12 (upd hd c (jk_on st.head?)) := (s3.2.2 _ (fun z => by have := z.2; omega)).trans Hd1
              have H2 := tp_fr2 F2 Hd2 H
              have lj := ty_s_le (p := p) (i := i1 + z) (by omega)
              obtain ⟨h3, u1, u2, u3, u4, u5⟩ := tp_run W m (ty_s p (i1 + z)) (t + 2) (c :: st) (ty_f f st w) h2 _ (by omega) lj.2 (by omega) (ty_s_s _) H2 Hd2 s2 W2 (S1 w) (Or.inr (Or.inl (by simp)))
              dsimp only
              rw [ef]
              refine ⟨h3, fun d => ?_, F2.trans u2, u3, u4, u5⟩
              have wt := fun d => tp_wt (rc := rc) H1 hp (i := i1) (r := r) (by omega) (by omega) rd d
              rw [← ez, ← ew] at wt
              rw [st4 d, show ty_z p i1 = z by unfold ty_z; rw [hw], if_neg (by rw [jk_0 (by omega)]; omega), wt, jk_cI, s1, jk_cV, jk_add2, tp_skip H2 hp (by omega), jk_cI, jk_succ]
              exact u1 d
          · have e1 : i1 = p.1 := by omega
            have nw : ty_w p i1 = none := by
              unfold ty_w
              have m0 : ty_m p i1 = false := by unfold ty_m; rw [decide_eq_false cj]; rfl
              have d0 : ty_d p i1 = false := by unfold ty_d; rw [decide_eq_false cj]; rfl
              rw [show ty_0 p i1 = i1 by unfold ty_0; rw [m0]; rfl, show ty_dc p 3 i1 = 0 by unfold ty_dc; rw [d0]; rfl, if_pos rfl]
            rw [nw]
            refine ⟨h1, fun d => ?_, F1, ⟨_, Hd1⟩, ⟨_, G1⟩, fun g q => by cases q⟩
            rw [st3 d, je_297_12]
            by_cases ct : (120 : Int32) ≤ Int32.ofNat (t + 1)
            · rw [if_pos ct, if_pos (jk_ge (by omega)), hl1, jk_bs, ← e1]
              rfl
            · rw [if_neg ct, hl1, jk_bs, if_pos (by rw [jk_le (by omega) (by omega)]; omega), if_pos (jk_ge (by omega)), jk_bs, ← e1]
              rfl
      · rw [if_neg (fun z => c40 z.2)]
        have st2 := fun d => (st1 d).trans (if_neg c40)
        by_cases c41 : p.2 i = 41
        · rw [if_pos ⟨ci, c41⟩]
          cases st with
          | nil =>
            refine ⟨h, fun d => ?_, Fr.rfl, ⟨_, Hd⟩, ⟨_, G⟩, fun g q => by cases q⟩
            rw [st2 d, if_pos c41, cl_isPlace, jk_cI, show jp_place (jk_on (List.head? ([] : List Nat))) = false from by decide, jk_if0, if_neg (by decide)]
            rfl
          | cons a r =>
            obtain ⟨a1, a2, a3, a4⟩ := S
            have li := ty_s_le (p := p) (i := i + 1) (by omega)
            have st3 : ∀ d, jb_297 rc (d + 5) 12 [(0, .ref 320), (1, .ref 5), (2, .int (jk_on (a :: r).head?)), (3, .int 0), (4, .int (Int32.ofNat i)), (5, .int (Int32.ofNat t))] [] h = jb_297 rc (d + 5) 12 [(0, .ref 320), (1, .ref 5), (2, .int (jk_on r.head?)), (3, .int 0), (4, .int (Int32.ofNat (ty_s p (i + 1)))), (5, .int (Int32.ofNat (t + 1)))] [] h := fun d => by
              rw [st2 d, if_pos c41, cl_isPlace, jk_cI, show jk_on (a :: r).head? = Int32.ofNat a from rfl, jp_place_of a1, jk_if0, if_pos rfl, tp_g1 H, jk_bs, Hd, jk_aI a1 (by decide), jk_bs, a3, jk_succ, tp_skip H hp (by omega), jk_cI, jk_succ]
            dsimp only
            by_cases ce : r = [] ∧ p.1 ≤ ty_s p (i + 1)
            · rw [if_pos ce]
              refine ⟨h, fun d => ?_, Fr.rfl, ⟨_, Hd⟩, ⟨_, G⟩, fun g q => by cases q; exact ⟨G, Wf⟩⟩
              have nz : ¬ Int32.ofNat (bc f.2.2) = 0 := by rw [jk_0 (by omega)]; have := bc_pos a1 a2; omega
              have fin : (if (0 : Int32) ≤ jk_on r.head? then (jx_gI (jx_at h 320) 7 2).bind fun v1 => some (some (.int v1), h) else jx_cI (jx_C rc (d + 5) 227 [.ref 5] h) fun v3 h2 => if v3 = 0 then (jx_gI (jx_at h2 320) 7 2).bind fun v4 => some (some (.int v4), h2) else some (some (.int (-1 : Int32)), h2)) = some (some (.int (-1)), h) := by
                rw [ce.1, if_neg (by decide), fo_size G Wf.1.s, jk_cI, if_neg nz]
              rw [st3 d, je_297_12]
              by_cases ct : (120 : Int32) ≤ Int32.ofNat (t + 1)
              · rw [if_pos ct]; exact fin
              · rw [hl] at fin
                rw [if_neg ct, hl, jk_bs, if_pos (by rw [jk_le (by omega) (by omega)]; omega)]; exact fin
            · rw [if_neg ce]
              have pre' : ty_s p (i + 1) < p.1 ∨ r ≠ [] ∨ bc f.2.2 = 0 := by
                by_cases q : r = []
                · exact Or.inl (Nat.lt_of_not_le fun z => ce ⟨q, z⟩)
                · exact Or.inr (Or.inl q)
              obtain ⟨h3, u1, u2, u3, u4, u5⟩ := tp_run W m (ty_s p (i + 1)) (t + 1) r f h hd (by omega) li.2 (by omega) (ty_s_s _) H Hd G Wf a4 pre'
              refine ⟨h3, fun d => ?_, u2, u3, u4, u5⟩
              rw [st3 d]
              exact u1 d
        · rw [if_neg (fun z => c41 z.2)]
          refine ⟨h, fun d => ?_, Fr.rfl, ⟨_, Hd⟩, ⟨_, G⟩, fun g q => by cases q⟩
          rw [st2 d, if_neg c41]
          rfl
    · have ei : i = p.1 := by omega
      have er : ty_run p (m + 1) i st f = .inl i := by
        unfold ty_run
        rw [if_neg (fun z => ci z.1), if_neg (fun z => ci z.1)]
      rw [er]
      refine ⟨h, fun d => ?_, Fr.rfl, ⟨_, Hd⟩, ⟨_, G⟩, fun g q => by cases q⟩
      have fin : (if (0 : Int32) ≤ jk_on st.head? then (jx_gI (jx_at h 320) 7 2).bind fun v1 => some (some (.int v1), h) else jx_cI (jx_C rc (d + 5) 227 [.ref 5] h) fun v3 h2 => if v3 = 0 then (jx_gI (jx_at h2 320) 7 2).bind fun v4 => some (some (.int v4), h2) else some (some (.int (-1 : Int32)), h2)) = some (some (.int (Int32.ofNat i)), h) := by
        cases st with
        | nil =>
          have b0 : bc f.2.2 = 0 := by
            rcases pre with z | z | z
            · omega
            · exact absurd rfl z
            · exact z
          rw [if_neg (by decide), fo_size G Wf.1.s, jk_cI, if_pos (by rw [b0]; rfl), hl, jk_bs, ei]
        | cons a r =>
          have := S.1
          rw [if_pos (show (0 : Int32) ≤ jk_on (a :: r).head? from jk_ge (k := a) (by omega)), hl, jk_bs, ei]
      rw [je_297_12]
      by_cases ct : (120 : Int32) ≤ Int32.ofNat t
      · rw [if_pos ct]; exact fin
      · rw [hl] at fin
        rw [if_neg ct, hl, jk_bs, if_pos (by rw [jk_le (by omega) (by omega)]; omega)]; exact fin
end
