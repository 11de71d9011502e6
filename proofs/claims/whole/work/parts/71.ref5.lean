/-! The reference: move -/
section
variable {rc : Nat → Nat × (Nat → Int32)} {h h' : jxH} {P : Nat → Prop} {σ : jSt} {f : jF}
def go_p (k p : Int32) : Int32 := if k = 3 then 0 else if k = 6 then 0 else p
def go_q (k q : Int32) : Int32 := if k = 1 then q else 0
def go_v (k v : Int32) : Int32 := if jp_bt k.toInt64 1 3 = true then v else if k = 7 then v else 0
def go_s (k s : Int32) : Int32 := if k = 7 then s else 0
theorem mo_g1 (a1 a2 a3 a4 a5 a6 a7 a8 a9 a10 a11 a12 a13 : Int32) : jx_gR (m_obj a1 a2 a3 a4 a5 a6 a7 a8 a9 a10 a11 a12 a13) 12 1 = some 338 := rfl
theorem mo_g2 (a1 a2 a3 a4 a5 a6 a7 a8 a9 a10 a11 a12 a13 : Int32) : jx_gR (m_obj a1 a2 a3 a4 a5 a6 a7 a8 a9 a10 a11 a12 a13) 12 2 = some 339 := rfl
theorem mo_g3 (a1 a2 a3 a4 a5 a6 a7 a8 a9 a10 a11 a12 a13 : Int32) : jx_gR (m_obj a1 a2 a3 a4 a5 a6 a7 a8 a9 a10 a11 a12 a13) 12 3 = some 381 := rfl
theorem mo_g4 (a1 a2 a3 a4 a5 a6 a7 a8 a9 a10 a11 a12 a13 : Int32) : jx_gI (m_obj a1 a2 a3 a4 a5 a6 a7 a8 a9 a10 a11 a12 a13) 12 4 = some a1 := rfl
theorem mo_g5 (a1 a2 a3 a4 a5 a6 a7 a8 a9 a10 a11 a12 a13 : Int32) : jx_gI (m_obj a1 a2 a3 a4 a5 a6 a7 a8 a9 a10 a11 a12 a13) 12 5 = some a2 := rfl
theorem mo_p4 (x a1 a2 a3 a4 a5 a6 a7 a8 a9 a10 a11 a12 a13 : Int32) : jx_pF (m_obj a1 a2 a3 a4 a5 a6 a7 a8 a9 a10 a11 a12 a13) 12 4 (.int x) = some (m_obj x a2 a3 a4 a5 a6 a7 a8 a9 a10 a11 a12 a13) := rfl
theorem mo_p5 (x a1 a2 a3 a4 a5 a6 a7 a8 a9 a10 a11 a12 a13 : Int32) : jx_pF (m_obj a1 a2 a3 a4 a5 a6 a7 a8 a9 a10 a11 a12 a13) 12 5 (.int x) = some (m_obj a1 x a3 a4 a5 a6 a7 a8 a9 a10 a11 a12 a13) := rfl
theorem mo_is (a1 a2 a3 a4 a5 a6 a7 a8 a9 a10 a11 a12 a13 : Int32) : jx_is (m_obj a1 a2 a3 a4 a5 a6 a7 a8 a9 a10 a11 a12 a13) 12 = true := rfl
/-- signOf() -/
theorem rf_signOf {b : Nat} (H : ro_at h b f) {m : jM} (e : jf_ref f false m = 0) (d : Nat) : jx_C rc (d + 2) 94 [.ref b, .int m.1, .int m.2.1, .int m.2.2.2.1] h = some (some (.int (jf_sign f m)), h) := by
  have hk := jf_ref_k e
  rw [je_94]
  unfold jf_sign
  rcases hk with q | q | q | q | q | q | q | q
  · rw [if_pos q, if_pos q]
    obtain ⟨p, hp, e1, -⟩ := jf_ref_0 e q
    rw [e1, ro_w H hp, jk_bs, jF_w_of hp]
  all_goals
    rw [q, if_neg (by decide), rf_in, jk_cI, jk_if0]
  · rw [if_pos (by decide), if_neg (by decide), if_pos (by decide)]
  · rw [if_pos (by decide), if_neg (by decide), if_neg (by decide), if_pos (by decide)]
  · rw [if_pos (by decide), if_neg (by decide), if_neg (by decide), if_neg (by decide), if_pos (by decide)]
  · rw [if_neg (by decide), if_neg (by decide), if_neg (by decide), if_neg (by decide), if_neg (by decide), if_neg (by decide), if_neg (by decide)]
  · rw [if_neg (by decide), if_neg (by decide), if_neg (by decide), if_neg (by decide), if_neg (by decide), if_neg (by decide), if_neg (by decide)]
  · rw [if_neg (by decide), if_pos (by decide), ro_0 H, jk_bs, rf_many, jk_cI, if_neg (show ¬ (2 : Int32) = 0 by decide), if_neg (show ¬ (6 : Int32) = 0 by decide), if_neg (show ¬ (6 : Int32) = 1 by decide), if_neg (show ¬ (6 : Int32) = 2 by decide), if_neg (show ¬ (6 : Int32) = 3 by decide), if_pos (show (6 : Int32) = 6 from rfl)]
    have z : ∀ n : Nat, n ≤ 12 → ((Int32.ofNat n - Int32.ofNat n / 2 * 2 = 0) ↔ n % 2 = 0) := by decide
    by_cases w : bc f.2.2 % 2 = 0
    · rw [if_pos ((z _ (bc_le _)).mpr w), if_pos w]
    · rw [if_neg (fun x => w ((z _ (bc_le _)).mp x)), if_neg w]
  · rw [if_neg (by decide), if_neg (by decide), if_neg (by decide), if_neg (by decide), if_neg (by decide), if_neg (by decide), if_neg (by decide)]
section
variable {D : Nat → Int32} {n : Nat} {m : jM} {al tp at_ wr te du hi fl fm ff kh ik : Int32}
theorem go_74 (hn : n < 40) (o : jx_at h 336 = m_obj (Int32.ofNat n) al tp at_ wr te du hi fl fm ff kh ik) (H : ro_at h 338 f) (r : m_rows h 339 41 340) (rw_ : ∃ g, ro_at h (340 + (n + 1)) g) (hd : jx_at h 381 = jxI 0 240 D) (B : jf_B f) (e : jf_ref f false m = 0) (s2 : Int32) : ∃ h', (∀ d, jb_101 rc (d + 7) 74 [(0, .ref 336), (1, .int m.1), (2, .int m.2.1), (3, .int m.2.2.1), (4, .int m.2.2.2.1), (5, .int m.2.2.2.2), (6, .int (6 * Int32.ofNat n))] [.int s2, .int (6 * Int32.ofNat n + 4), .ref 381] h = some (none, h')) ∧ jx_at h' 336 = m_obj (Int32.ofNat (n + 1)) (Int32.ofNat (n + 1)) tp at_ wr te du hi fl fm ff kh ik ∧ ro_at h' 338 (jf_act f m) ∧ ro_at h' (340 + (n + 1)) (jf_act f m) ∧ jx_at h' 381 = jxI 0 240 (upd (upd D (6 * n + 4) s2) (6 * n + 5) (jf_sign f m)) ∧ Fr (fun x => x = 336 ∨ x = 338 ∨ x = 340 + (n + 1) ∨ x = 381) h h' := by
  have F1 : Fr (fun x => x = 381) h (jx_set h 381 (jxI 0 240 (upd D (6 * n + 4) s2))) := Fr.one
  have F2 : Fr (fun x => x = 381) h (jx_set h 381 (jxI 0 240 (upd (upd D (6 * n + 4) s2) (6 * n + 5) (jf_sign f m)))) := Fr.one
  have d2 : jx_at (jx_set h 381 (jxI 0 240 (upd (upd D (6 * n + 4) s2) (6 * n + 5) (jf_sign f m)))) 381 = jxI 0 240 (upd (upd D (6 * n + 4) s2) (6 * n + 5) (jf_sign f m)) := jk_at_self ..
  generalize hh2 : jx_set h 381 (jxI 0 240 (upd (upd D (6 * n + 4) s2) (6 * n + 5) (jf_sign f m))) = h2 at F2 d2
  obtain ⟨h3, t1, t2, t3⟩ := rf_does (rc := rc) (ro_fr F2 (by omega) H) B m e
  have o3 : jx_at h3 336 = m_obj (Int32.ofNat n) al tp at_ wr te du hi fl fm ff kh ik := (t3.2.2 _ (by omega)).trans ((F2.2.2 _ (by omega)).trans o)
  have F4 : Fr (fun x => x = 336) h3 (jx_set h3 336 (m_obj (Int32.ofNat (n + 1)) (Int32.ofNat (n + 1)) tp at_ wr te du hi fl fm ff kh ik)) := Fr.one
  have o4 : jx_at (jx_set h3 336 (m_obj (Int32.ofNat (n + 1)) (Int32.ofNat (n + 1)) tp at_ wr te du hi fl fm ff kh ik)) 336 = m_obj (Int32.ofNat (n + 1)) (Int32.ofNat (n + 1)) tp at_ wr te du hi fl fm ff kh ik := jk_at_self ..
  generalize hh4 : jx_set h3 336 (m_obj (Int32.ofNat (n + 1)) (Int32.ofNat (n + 1)) tp at_ wr te du hi fl fm ff kh ik) = h4 at F4 o4
  have FA : Fr (fun x => x = 336 ∨ x = 338 ∨ x = 381) h h4 := ((F2.mono fun x q => Or.inr (Or.inr q)).trans (t3.mono fun x q => Or.inr (Or.inl q))).trans (F4.mono fun x q => Or.inl q)
  obtain ⟨g, hg⟩ := rw_
  obtain ⟨h5, s1, s2', s3⟩ := ro_copies (rc := rc) (a := 338) (b := 340 + (n + 1)) (by omega) (ro_fr F4 (by omega) t2) (ro_fr FA (by omega) hg)
  refine ⟨h5, fun d => ?_, (s3.2.2 _ (by omega)).trans o4, ro_fr s3 (by omega) (ro_fr F4 (by omega) t2), s2', ?_, (FA.mono fun x q => by omega).trans (s3.mono fun x q => by omega)⟩
  · have o1 : jx_at (jx_set h 381 (jxI 0 240 (upd D (6 * n + 4) s2))) 336 = m_obj (Int32.ofNat n) al tp at_ wr te du hi fl fm ff kh ik := (F1.2.2 _ (by omega)).trans o
    rw [je_101_74, hd, show (4 : Int32) = Int32.ofNat 4 from rfl, jk_6, jk_sI (by omega) (by decide), jk_bs, o1, mo_g3, jk_bs, mo_g1, jk_bs, rf_signOf (ro_fr F1 (by omega) H) e, jk_cI, jk_at_self, show (5 : Int32) = Int32.ofNat 5 from rfl, jk_6, jk_sI (by omega) (by decide), jk_bs, jk_set_set, hh2, (F2.2.2 336 (by omega)).trans o, mo_g1, jk_bs, t1, jk_cV, o3, mo_g4, jk_bs, mo_p4, jk_bs, jk_at_self, mo_g4, jk_bs, mo_p5, jk_bs, jk_set_set, jk_succ, hh4, o4, mo_g1, jk_bs, mo_g2, jk_bs, mo_g4, jk_bs, m_rows_q (rows_fr FA (by omega) r) (by omega) (by decide), jk_bs, jk_mos, s1, jk_cV]
  · rw [s3.2.2 _ (by omega), F4.2.2 _ (by omega), t3.2.2 _ (by omega), d2]
theorem go_44 (hn : n < 40) (o : jx_at h 336 = m_obj (Int32.ofNat n) al tp at_ wr te du hi fl fm ff kh ik) (hd : jx_at h 381 = jxI 0 240 D) (s2 : Int32) (d : Nat) : jb_101 rc (d + 1) 44 [(0, .ref 336), (1, .int m.1), (2, .int m.2.1), (3, .int m.2.2.1), (4, .int m.2.2.2.1), (5, .int m.2.2.2.2), (6, .int (6 * Int32.ofNat n))] [.int s2, .int (6 * Int32.ofNat n + 2), .ref 381] h = jb_101 rc (d + 1) 74 [(0, .ref 336), (1, .int m.1), (2, .int m.2.1), (3, .int m.2.2.1), (4, .int m.2.2.2.1), (5, .int m.2.2.2.2), (6, .int (6 * Int32.ofNat n))] [.int (go_s m.1 m.2.2.2.2), .int (6 * Int32.ofNat n + 4), .ref 381] (jx_set h 381 (jxI 0 240 (upd (upd D (6 * n + 2) s2) (6 * n + 3) (go_v m.1 m.2.2.2.1)))) := by
  have o1 : ∀ e : jxE, jx_at (jx_set h 381 e) 336 = m_obj (Int32.ofNat n) al tp at_ wr te du hi fl fm ff kh ik := fun e => (jk_at_ne _ _ (by decide)).trans o
  rw [je_101_44, hd, show (2 : Int32) = Int32.ofNat 2 from rfl, jk_6, jk_sI (by omega) (by decide), jk_bs, o1, mo_g3, jk_bs, rf_in, jk_cI, jk_if0]
  unfold go_v go_s
  have t3 : ∀ x, jx_sI (jx_at (jx_set h 381 (jxI 0 240 (upd D (6 * n + 2) s2))) 381) 0 (6 * Int32.ofNat n + 3) x = some (jxI 0 240 (upd (upd D (6 * n + 2) s2) (6 * n + 3) x)) := fun x => by
    rw [jk_at_self, show (3 : Int32) = Int32.ofNat 3 from rfl, jk_6, jk_sI (by omega) (by decide)]
  by_cases c1 : jp_bt m.1.toInt64 1 3 = true
  · rw [if_pos c1, if_pos c1, t3, jk_bs, jk_set_set, o1, mo_g3, jk_bs]
    split <;> rfl
  · rw [if_neg c1, if_neg c1]
    by_cases c7 : m.1 = 7
    · rw [if_pos c7, if_pos c7, if_pos c7, t3, jk_bs, jk_set_set, o1, mo_g3, jk_bs, if_pos c7]
    · rw [if_neg c7, if_neg c7, if_neg c7, t3, jk_bs, jk_set_set, o1, mo_g3, jk_bs, if_neg c7]
theorem go_0 (hn : n < 40) (o : jx_at h 336 = m_obj (Int32.ofNat n) al tp at_ wr te du hi fl fm ff kh ik) (H : ro_at h 338 f) (r : m_rows h 339 41 340) (rw_ : ∃ g, ro_at h (340 + n) g) (hd : jx_at h 381 = jxI 0 240 D) : ∃ h1, (∀ d, jx_C rc (d + 8) 101 [.ref 336, .int m.1, .int m.2.1, .int m.2.2.1, .int m.2.2.2.1, .int m.2.2.2.2] h = jb_101 rc (d + 7) 74 [(0, .ref 336), (1, .int m.1), (2, .int m.2.1), (3, .int m.2.2.1), (4, .int m.2.2.2.1), (5, .int m.2.2.2.2), (6, .int (6 * Int32.ofNat n))] [.int (go_s m.1 m.2.2.2.2), .int (6 * Int32.ofNat n + 4), .ref 381] h1) ∧ ro_at h1 (340 + n) f ∧ jx_at h1 381 = jxI 0 240 (upd (upd (upd (upd D (6 * n) m.1) (6 * n + 1) (go_p m.1 m.2.1)) (6 * n + 2) (go_q m.1 m.2.2.1)) (6 * n + 3) (go_v m.1 m.2.2.2.1)) ∧ Fr (fun x => x = 340 + n ∨ x = 381) h h1 := by
  obtain ⟨g, hg⟩ := rw_
  obtain ⟨h1, s1, s2, s3⟩ := ro_copies (rc := rc) (a := 338) (b := 340 + n) (by omega) H hg
  have o0 : jx_at h1 336 = m_obj (Int32.ofNat n) al tp at_ wr te du hi fl fm ff kh ik := (s3.2.2 _ (by omega)).trans o
  have d0 : jx_at h1 381 = jxI 0 240 D := (s3.2.2 _ (by omega)).trans hd
  have o1 : ∀ e : jxE, jx_at (jx_set h1 381 e) 336 = m_obj (Int32.ofNat n) al tp at_ wr te du hi fl fm ff kh ik := fun e => (jk_at_ne _ _ (by decide)).trans o0
  have e2 : jx_at (jx_set h1 381 (jxI 0 240 (upd (upd D (6 * n) m.1) (6 * n + 1) (go_p m.1 m.2.1)))) 381 = jxI 0 240 (upd (upd D (6 * n) m.1) (6 * n + 1) (go_p m.1 m.2.1)) := jk_at_self ..
  have F2 : Fr (fun x => x = 381) h1 (jx_set h1 381 (jxI 0 240 (upd (upd (upd (upd D (6 * n) m.1) (6 * n + 1) (go_p m.1 m.2.1)) (6 * n + 2) (go_q m.1 m.2.2.1)) (6 * n + 3) (go_v m.1 m.2.2.2.1)))) := Fr.one
  refine ⟨_, fun d => ?_, ro_fr F2 (by omega) s2, jk_at_self .., (s3.mono fun x q => Or.inl q).trans (F2.mono fun x q => Or.inr q)⟩
  have G := go_44 (rc := rc) (m := m) hn (o1 (jxI 0 240 (upd (upd D (6 * n) m.1) (6 * n + 1) (go_p m.1 m.2.1)))) e2 (go_q m.1 m.2.2.1) (d + 6)
  rw [jk_set_set] at G
  have t3 : ∀ x, jx_sI (jx_at (jx_set h1 381 (jxI 0 240 (upd D (6 * n) m.1))) 381) 0 (6 * Int32.ofNat n + 1) x = some (jxI 0 240 (upd (upd D (6 * n) m.1) (6 * n + 1) x)) := fun x => by
    rw [jk_at_self, show (1 : Int32) = Int32.ofNat 1 from rfl, jk_6, jk_sI (by omega) (by decide)]
  have t2 : jx_sI (jx_at h1 381) 0 (6 * Int32.ofNat n) m.1 = some (jxI 0 240 (upd D (6 * n) m.1)) := by
    have := jk_6 n 0
    rw [show Int32.ofNat 0 = (0 : Int32) from rfl, Int32.add_zero] at this
    rw [this, d0, jk_sI (by omega) (by decide)]; rfl
  rw [je_101, o, if_pos (mo_is ..), mo_g1, jk_bs, mo_g2, jk_bs, mo_g4, jk_bs, m_rows_q r (by omega) (by decide), jk_bs, jk_mos, s1, jk_cV, o0, mo_g4, jk_bs, mo_g3, jk_bs, t2, jk_bs, o1, mo_g3, jk_bs]
  unfold go_p at G ⊢
  by_cases c3 : m.1 = 3
  · simp only [if_pos c3] at G ⊢
    rw [t3, jk_bs, jk_set_set, o1, mo_g3, jk_bs]
    by_cases c1 : m.1 = 1
    · rw [if_pos c1]; rw [show go_q m.1 m.2.2.1 = m.2.2.1 from if_pos c1] at G ⊢; exact G
    · rw [if_neg c1]; rw [show go_q m.1 m.2.2.1 = 0 from if_neg c1] at G ⊢; exact G
  · simp only [if_neg c3] at G ⊢
    by_cases c6 : m.1 = 6
    · simp only [if_pos c6] at G ⊢
      rw [t3, jk_bs, jk_set_set, o1, mo_g3, jk_bs]
      by_cases c1 : m.1 = 1
      · rw [if_pos c1]; rw [show go_q m.1 m.2.2.1 = m.2.2.1 from if_pos c1] at G ⊢; exact G
      · rw [if_neg c1]; rw [show go_q m.1 m.2.2.1 = 0 from if_neg c1] at G ⊢; exact G
    · simp only [if_neg c6] at G ⊢
      rw [t3, jk_bs, jk_set_set, o1, mo_g3, jk_bs]
      by_cases c1 : m.1 = 1
      · rw [if_pos c1]; rw [show go_q m.1 m.2.2.1 = m.2.2.1 from if_pos c1] at G ⊢; exact G
      · rw [if_neg c1]; rw [show go_q m.1 m.2.2.1 = 0 from if_neg c1] at G ⊢; exact G
end
end
