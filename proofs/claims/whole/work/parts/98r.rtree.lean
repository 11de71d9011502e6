/-! TEXTS: layTree: the least text of a tree -/
def ly_A (h : jxH) : Prop := ly_H h ∧ m_rows h 415 12 416 ∧ (∀ i, i < 12 → ∃ g, jx_at h (416 + i) = jxI 0 64 g) ∧ ∃ g, jx_at h 428 = jxI 0 12 g
def ly_b (h : jxH) (v : Nat) (T : List Nat) : Prop := tl_at h (416 + v) T ∧ ∃ G, jx_at h 428 = jxI 0 12 G ∧ G v = Int32.ofNat T.length
def TBt (f : jF) (T : Int32) (n : Nat) : List Nat := match TBo f T n with
  | some j => TX f j 0
  | none => []
section
variable {rc : Nat → Nat × (Nat → Int32)} {h h' : jxH} {a b : Nat} {T U : List Nat} {t : Nat → List Nat} {S : Int32} {f : jF}
theorem ly_A.g18 (L : ly_A h) : jx_gR (jx_at h 336) 12 18 = some 415 := L.1.1.g 18 415 (by intros; rfl)
theorem ly_A.g19 (L : ly_A h) : jx_gR (jx_at h 336) 12 19 = some 428 := L.1.1.g 19 428 (by intros; rfl)
theorem ly_A.g20 (L : ly_A h) : jx_gR (jx_at h 336) 12 20 = some 429 := L.1.1.g 20 429 (by intros; rfl)
theorem ly_H_fr {P : Nat → Prop} (F : Fr P h h') (hP : ∀ x, (x = 336 ∨ (401 ≤ x ∧ x < 415)) → ¬ P x) (L : ly_H h) : ly_H h' := by
  obtain ⟨M, ⟨Q, q1, q2⟩, r, g, e⟩ := L
  exact ⟨M.fr F (hP _ (by omega)), ⟨Q, (F.2.2 _ (hP _ (by omega))).trans q1, q2⟩, fun i hi => by
    obtain ⟨g, e⟩ := r i hi; exact ⟨g, (F.2.2 _ (hP _ (by omega))).trans e⟩, g, (F.2.2 _ (hP _ (by omega))).trans e⟩
theorem ly_A_H (L : ly_A h) (F : Fr jLy h h') (K : ly_H h') : ly_A h' := by
  obtain ⟨-, ⟨Q, q1, q2⟩, r, g, e⟩ := L
  have n : ∀ x, 415 ≤ x → ¬ jLy x := fun x hx w => by unfold jLy at w; omega
  exact ⟨K, ⟨Q, (F.2.2 _ (n _ (by omega))).trans q1, q2⟩, fun i hi => by
    obtain ⟨g, e⟩ := r i hi; exact ⟨g, (F.2.2 _ (n _ (by omega))).trans e⟩, g, (F.2.2 _ (n _ (by omega))).trans e⟩
theorem ly_A_row (L : ly_A h) {v : Nat} (hv : v < 12) (F : Fr (fun x => x = 416 + v) h h') (K : tl_at h' (416 + v) T) : ly_A h' := by
  obtain ⟨L0, ⟨Q, q1, q2⟩, r, g, e⟩ := L
  refine ⟨ly_H_fr F (by omega) L0, ⟨Q, (F.2.2 _ (by omega)).trans q1, q2⟩, fun i hi => ?_, g, (F.2.2 _ (by omega)).trans e⟩
  by_cases z : i = v
  · obtain ⟨g, e, -⟩ := K; subst z; exact ⟨g, e⟩
  · obtain ⟨g, e⟩ := r i hi; exact ⟨g, (F.2.2 _ (by omega)).trans e⟩
/-- the length of a tree's text is put -/
theorem ly_A_len (L : ly_A h) {v : Nat} (hv : v < 12) (n : Nat) (K : tl_at h (416 + v) T) (hn : n = T.length) : ∃ e, jx_sI (jx_at h 428) 0 (Int32.ofNat v) (Int32.ofNat n) = some e ∧ ly_A (jx_set h 428 e) ∧ ly_b (jx_set h 428 e) v T ∧ (∀ i U, i < 12 → i ≠ v → ly_b h i U → ly_b (jx_set h 428 e) i U) ∧ Fr (fun x => x = 428) h (jx_set h 428 e) := by
  obtain ⟨L0, ⟨Q, q1, q2⟩, r, g, e⟩ := L
  have F : Fr (fun x => x = 428) h (jx_set h 428 (jxI 0 12 (upd g v (Int32.ofNat n)))) := Fr.one
  refine ⟨jxI 0 12 (upd g v (Int32.ofNat n)), by rw [e]; exact jk_sI hv (by decide), ⟨ly_H_fr F (by omega) L0, ⟨Q, (F.2.2 _ (by omega)).trans q1, q2⟩, fun i hi => ?_, _, jk_at_self ..⟩, ⟨tl_fr F (by omega) K, _, jk_at_self .., by unfold upd; rw [if_pos rfl, hn]⟩, fun i U hi ne C => ?_, F⟩
  · obtain ⟨g, e⟩ := r i hi; exact ⟨g, (F.2.2 _ (by omega)).trans e⟩
  · obtain ⟨K1, G', e', q'⟩ := C
    refine ⟨tl_fr F (by omega) K1, _, jk_at_self .., ?_⟩
    unfold upd
    rw [if_neg ne]
    have w : jx_aI (jx_at h 428) 0 (Int32.ofNat i) = some (G' i) := by rw [e', jk_aI hi (by decide)]
    rw [e, jk_aI hi (by decide)] at w
    injection w with w
    rw [w, q']
theorem ly_b_fr {P : Nat → Prop} {v : Nat} (F : Fr P h h') (h1 : ¬ P (416 + v)) (h2 : ¬ P 428) (H : ly_b h v T) : ly_b h' v T := by
  obtain ⟨K, G, e, q⟩ := H
  exact ⟨tl_fr F h1 K, G, (F.2.2 _ h2).trans e, q⟩
theorem ly_blen {v : Nat} (hv : v < 12) (H : ly_b h v T) : jx_aI (jx_at h 428) 0 (Int32.ofNat v) = some (Int32.ofNat T.length) := by
  obtain ⟨K, G, e, q⟩ := H
  rw [e, jk_aI hv (by decide), q]
/-- a text of what hangs is taken over -/
theorem rl_over {l k : Nat} (hl : l < 12) (hk : k < 12) (hb : b < 402 ∨ 429 ≤ b) (x3 : Int32) (lU : U.length ≤ 60) : ∀ (m i : Nat) (h : jxH), i + m = U.length → ly_A h → ly_c h k U → tl_at h (416 + l) (U.take i) → ∃ h', (∀ d, jb_165 rc d 48 [(0, .ref 336), (1, .ref b), (2, .int (Int32.ofNat l)), (3, .int x3), (4, .int (Int32.ofNat k)), (5, .int (Int32.ofNat i))] [] h = jb_165 rc d 11 [(0, .ref 336), (1, .ref b), (2, .int (Int32.ofNat l)), (3, .int x3), (4, .int (Int32.ofNat (k + 1)))] [] h') ∧ ly_A h' ∧ ly_b h' l U ∧ (∀ i V, i < 12 → i ≠ l → ly_b h i V → ly_b h' i V) ∧ Fr (fun x => x = 416 + l ∨ x = 428) h h'
  | 0, i, h, e, L, K, H => by
    rw [List.take_of_length_le (by omega)] at H
    obtain ⟨x, p1, p2, p3, p4, p5⟩ := ly_A_len L hl U.length H rfl
    refine ⟨_, fun d => ?_, p2, p3, p4, p5.mono fun x hx => Or.inr hx⟩
    rw [je_165_48, L.1.g17, jk_bs, ly_len hk K, jk_bs, if_pos (by rw [jk_le (by omega) (by omega)]; omega), L.g19, jk_bs, jk_bs, ly_len hk K, jk_bs, p1, jk_bs, jk_succ]
  | m + 1, i, h, e, L, K, H => by
    have hi : i < U.length := by omega
    have lt : (U.take i).length = i := by rw [List.length_take]; omega
    obtain ⟨x, p1, p2⟩ := tl_put H (by omega) (U.getD i 0)
    rw [take_snoc hi] at p2
    rw [lt] at p1
    have F1 : Fr (fun x => x = 416 + l) h (jx_set h (416 + l) x) := Fr.one
    obtain ⟨h1, t1, t2, t3, t4, t5⟩ := rl_over hl hk hb x3 lU m (i + 1) _ (by omega) (ly_A_row L hl F1 p2) (ly_c_fr F1 (by omega) (by omega) K) p2
    refine ⟨h1, fun d => ?_, t2, t3, fun j V hj ne C => t4 j V hj ne (ly_b_fr F1 (by omega) (by omega) C), (F1.mono fun x hx => Or.inl hx).trans t5⟩
    obtain ⟨⟨g, e1, q⟩, -⟩ := id K
    rw [je_165_48, L.1.g17, jk_bs, ly_len hk K, jk_bs, if_neg (by rw [jk_le (by omega) (by omega)]; omega), L.g18, jk_bs, m_rows_q L.2.1 hl (by decide), jk_bs, jk_mos, L.1.g16, jk_bs, m_rows_q L.1.2.1 hk (by decide), jk_bs, jk_mos, e1, jk_aI (by omega) (by decide), jk_bs, q i hi, p1, jk_bs, jk_succ]
    exact t1 d
theorem TX_pos (W : jf_W f) {p : Nat} (hp : p < 12) (sp : bt f.2.2 p = true) : 0 < (TX f p 0).length ∧ tx_g (TX f p 0) := by
  obtain ⟨o, par, sz, J⟩ := wy_ex W hp sp
  have e := TX_eq W.1 J J.1
  have g := TX_g W.1 J J.1
  rw [J.2.2.1] at e g
  have u0 : tx_u par p = 0 := by unfold tx_u; rw [J.2.2.2.1]
  rw [u0] at e g
  exact ⟨by rw [e]; simp, g⟩
def jBe (l : Nat) : Nat → Prop := fun x => (402 ≤ x ∧ x < 415) ∨ x = 416 + l ∨ x = 428
theorem rl_tree_1 (W : jf_W f) (hb : b < 402 ∨ 429 ≤ b) {l k : Nat} (hl : l < 12) (sl : bt f.2.2 l = true) (hk : k < 12) (L : ly_A h) (H : ro_at h b f) (K : ly_b h l (TBt f (jt_T f l) k)) : ∃ h', (∀ D, jb_165 rc (D + 15) 11 [(0, .ref 336), (1, .ref b), (2, .int (Int32.ofNat l)), (3, .int (jt_T f l)), (4, .int (Int32.ofNat k))] [] h = jb_165 rc (D + 15) 11 [(0, .ref 336), (1, .ref b), (2, .int (Int32.ofNat l)), (3, .int (jt_T f l)), (4, .int (Int32.ofNat (k + 1)))] [] h') ∧ ly_A h' ∧ ly_b h' l (TBt f (jt_T f l) (k + 1)) ∧ (∀ i V, i < 12 → i ≠ l → ly_b h i V → ly_b h' i V) ∧ Fr (jBe l) h h' := by
  by_cases z : bt (jt_T f l) k = true
  · have sk := (jt_T_in W.1 hl sl z).2
    obtain ⟨o, par, sz, J⟩ := wy_ex W hk sk
    obtain ⟨tp, tg⟩ := TX_pos W hk sk
    obtain ⟨h1, r1, r2, r3, r4, -⟩ := rl_hang (rc := rc) W.1 J (show b < 402 ∨ 415 ≤ b by omega) 12 0 h J.1 (by have := J.2.1; omega) L.1 H
    have u0 : tx_u par k = 0 := by unfold tx_u; rw [J.2.2.2.1]
    unfold ly_k at r3
    rw [J.2.2.1, u0] at r3
    rw [J.2.2.1, J.2.2.2.1, show jk_on none = -1 from rfl] at r1
    have nL : ∀ x, 415 ≤ x → ¬ jLy x := fun x hx w => by unfold jLy at w; omega
    have L1 := ly_A_H L r4 r2
    have K1 := ly_b_fr r4 (nL _ (by omega)) (nL _ (by omega)) K
    have B1 : ∀ i V, i < 12 → i ≠ l → ly_b h i V → ly_b h1 i V := fun i V hi ne C => ly_b_fr r4 (nL _ (by omega)) (nL _ (by omega)) C
    have F1 : Fr (jBe l) h h1 := r4.mono fun x hx => Or.inl hx
    have st : ∀ D, jb_165 rc (D + 15) 11 [(0, .ref 336), (1, .ref b), (2, .int (Int32.ofNat l)), (3, .int (jt_T f l)), (4, .int (Int32.ofNat k))] [] h = _ := fun D => by
      rw [je_165_11, if_neg (jk_n12 hk), rf_has _ _ (by omega), jk_cI, jk_if0, if_pos z, r1, jk_cV, L1.g19, jk_bs, ly_blen hl K1, jk_bs]
    obtain ⟨h2, s1, s2, s3, s4, s5⟩ := rl_over (rc := rc) (b := b) hl hk hb (jt_T f l) tg.1 (TX f k 0).length 0 h1 (by omega) L1 r3 (by
      obtain ⟨⟨g, e, -⟩, -⟩ := K1
      exact ⟨g, e, fun i hi => by simp at hi⟩)
    have F2 : Fr (jBe l) h h2 := F1.trans (s5.mono fun x hx => Or.inr hx)
    have s1' : ∀ d, jb_165 rc d 48 [(0, .ref 336), (1, .ref b), (2, .int (Int32.ofNat l)), (3, .int (jt_T f l)), (4, .int (Int32.ofNat k)), (5, .int (0 : Int32))] [] h1 = _ := s1
    cases e : TBo f (jt_T f l) k with
    | none =>
      have e0 : TBt f (jt_T f l) k = [] := by unfold TBt; rw [e]
      have e1 : TBt f (jt_T f l) (k + 1) = TX f k 0 := by
        unfold TBt
        rw [TBo_succ, e, show tx_t (fun k => TX f k 0) (jt_T f l) k none = some k from if_pos z]
      rw [e1]
      refine ⟨h2, fun D => ?_, s2, s3, fun i V hi ne C => s4 i V hi ne (B1 i V hi ne C), F2⟩
      rw [st, e0, if_pos (by rfl), s1']
    | some j =>
      obtain ⟨j1, j2⟩ := TBo_in e
      have j12 : j < 12 := by omega
      have sj := (jt_T_in W.1 hl sl j2).2
      obtain ⟨jp, jg⟩ := TX_pos W j12 sj
      have e0 : TBt f (jt_T f l) k = TX f j 0 := by unfold TBt; rw [e]
      rw [e0] at K1 st
      have j60 := jg.1
      have ne0 : ¬ Int32.ofNat (TX f j 0).length = 0 := fun w => by
        have := (jk_inj (by omega) (by decide)).mp (show Int32.ofNat (TX f j 0).length = Int32.ofNat 0 from w)
        omega
      have ah := fun d => rl_ahead (rc := rc) r3.1 K1.1 tg jg d
      by_cases w : lx (TX f k 0) (TX f j 0) = true
      · have e1 : TBt f (jt_T f l) (k + 1) = TX f k 0 := by
          unfold TBt
          rw [TBo_succ, e, show tx_t (fun k => TX f k 0) (jt_T f l) k (some j) = some k by unfold tx_t; simp [z, w]]
        rw [e1]
        refine ⟨h2, fun D => ?_, s2, s3, fun i V hi ne C => s4 i V hi ne (B1 i V hi ne C), F2⟩
        rw [st, if_neg ne0, L1.1.g16, jk_bs, m_rows_q L1.1.2.1 hk (by decide), jk_bs, jk_mos, L1.1.g17, jk_bs, ly_len hk r3, jk_bs, L1.g18, jk_bs, m_rows_q L1.2.1 hl (by decide), jk_bs, jk_mos, jk_bs, ly_blen hl K1, jk_bs, ah, jk_cI, jk_if0, if_pos w, s1']
      · have e1 : TBt f (jt_T f l) (k + 1) = TX f j 0 := by
          unfold TBt
          rw [TBo_succ, e, show tx_t (fun k => TX f k 0) (jt_T f l) k (some j) = some j by unfold tx_t; simp [z, w]]
        rw [e1]
        refine ⟨h1, fun D => ?_, L1, K1, B1, F1⟩
        rw [st, if_neg ne0, L1.1.g16, jk_bs, m_rows_q L1.1.2.1 hk (by decide), jk_bs, jk_mos, L1.1.g17, jk_bs, ly_len hk r3, jk_bs, L1.g18, jk_bs, m_rows_q L1.2.1 hl (by decide), jk_bs, jk_mos, jk_bs, ly_blen hl K1, jk_bs, ah, jk_cI, jk_if0, if_neg w, jk_succ]
  · have e1 : TBt f (jt_T f l) (k + 1) = TBt f (jt_T f l) k := by
      unfold TBt
      rw [TBo_succ]
      cases e : TBo f (jt_T f l) k with
      | none => unfold tx_t; rw [if_neg z]
      | some j => unfold tx_t; dsimp only; rw [if_neg z]
    rw [e1]
    refine ⟨h, fun D => ?_, L, K, fun i V hi ne C => C, Fr.rfl⟩
    rw [je_165_11, if_neg (jk_n12 hk), rf_has _ _ (by omega), jk_cI, jk_if0, if_neg z, jk_succ]
theorem rl_tree_l (W : jf_W f) (hb : b < 402 ∨ 429 ≤ b) {l : Nat} (hl : l < 12) (sl : bt f.2.2 l = true) : ∀ (m k : Nat) (h : jxH), k + m = 12 → ly_A h → ro_at h b f → ly_b h l (TBt f (jt_T f l) k) → ∃ h', (∀ D, jb_165 rc (D + 15) 11 [(0, .ref 336), (1, .ref b), (2, .int (Int32.ofNat l)), (3, .int (jt_T f l)), (4, .int (Int32.ofNat k))] [] h = some (none, h')) ∧ ly_A h' ∧ ly_b h' l (TB f 12 l) ∧ (∀ i V, i < 12 → i ≠ l → ly_b h i V → ly_b h' i V) ∧ Fr (jBe l) h h'
  | 0, k, h, e, L, H, K => by
    obtain rfl : k = 12 := by omega
    exact ⟨h, fun D => by rw [je_165_11, if_pos (by decide)], L, K, fun i V hi ne C => C, Fr.rfl⟩
  | m + 1, k, h, e, L, H, K => by
    obtain ⟨h1, a1, a2, a3, a4, a5⟩ := rl_tree_1 (rc := rc) W hb hl sl (show k < 12 by omega) L H K
    obtain ⟨h2, b1, b2, b3, b4, b5⟩ := rl_tree_l W hb hl sl m (k + 1) h1 (by omega) a2 (ro_fr a5 (fun w => by unfold jBe at w; omega) H) a3
    exact ⟨h2, fun D => by rw [a1]; exact b1 D, b2, b3, fun i V hi ne C => b4 i V hi ne (a4 i V hi ne C), a5.trans b5⟩
/-- layTree() -/
theorem rl_tree (W : jf_W f) (hb : b < 402 ∨ 429 ≤ b) {l : Nat} (hl : l < 12) (sl : bt f.2.2 l = true) (L : ly_A h) (H : ro_at h b f) : ∃ h', (∀ D, jx_C rc (D + 16) 165 [.ref 336, .ref b, .int (Int32.ofNat l)] h = some (none, h')) ∧ ly_A h' ∧ ly_b h' l (TB f 12 l) ∧ (∀ i V, i < 12 → i ≠ l → ly_b h i V → ly_b h' i V) ∧ Fr (jBe l) h h' := by
  obtain ⟨g, eg⟩ := L.2.2.1 l hl
  obtain ⟨x, p1, p2, p3, p4, p5⟩ := ly_A_len L hl 0 (T := []) ⟨g, eg, fun i hi => absurd hi (Nat.not_lt_zero i)⟩ rfl
  obtain ⟨h1, a1, a2, a3, a4, a5⟩ := rl_tree_l (rc := rc) W hb hl sl 12 0 _ rfl p2 (ro_fr p5 (by omega) H) p3
  refine ⟨h1, fun D => ?_, a2, a3, fun i V hi ne C => a4 i V hi ne (p4 i V hi ne C), (p5.mono fun x hx => Or.inr (Or.inr hx)).trans a5⟩
  have p1' : jx_sI (jx_at h 428) 0 (Int32.ofNat l) (0 : Int32) = some x := p1
  rw [je_165, if_pos L.1.is, rf_treeOf H W.1.n hl, jk_cI, L.g19, jk_bs, p1', jk_bs]
  exact a1 D
end
