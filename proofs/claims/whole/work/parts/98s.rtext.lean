/-! TEXTS: layText, the reference's text of a forest -/
def ly_O (h0 h : jxH) (n : Nat) : Prop := ∃ c1 c2 c3 c4 c5 c6 c7 c8 c9 c10 c11 c12 c13 : Int32, jx_at h0 336 = m_obj c1 c2 c3 c4 c5 c6 c7 c8 c9 c10 c11 c12 c13 ∧ jx_at h 336 = m_obj c1 c2 c3 c4 c5 (Int32.ofNat n) c7 c8 c9 c10 c11 c12 c13
section
variable {rc : Nat → Nat × (Nat → Int32)} {h h' h0 : jxH} {a b : Nat} {T U : List Nat} {t : Nat → List Nat} {S : Int32} {f : jF} {σ : jSt}
theorem ly_O.g21 {n : Nat} (O : ly_O h0 h n) : jx_gI (jx_at h 336) 12 21 = some (Int32.ofNat n) := by
  obtain ⟨c1, c2, c3, c4, c5, c6, c7, c8, c9, c10, c11, c12, c13, -, e⟩ := O
  rw [e]; rfl
theorem ly_O.fr {P : Nat → Prop} {n : Nat} (F : Fr P h h') (hP : ¬ P 336) (O : ly_O h0 h n) : ly_O h0 h' n := by
  obtain ⟨c1, c2, c3, c4, c5, c6, c7, c8, c9, c10, c11, c12, c13, z, e⟩ := O
  exact ⟨c1, c2, c3, c4, c5, c6, c7, c8, c9, c10, c11, c12, c13, z, (F.2.2 _ hP).trans e⟩
theorem ly_A_fr {P : Nat → Prop} (F : Fr P h h') (hP : ∀ x, (401 ≤ x ∧ x < 429) → ¬ P x) (M : MO h') (L : ly_A h) : ly_A h' := by
  obtain ⟨⟨-, ⟨Q, q1, q2⟩, r, g, e⟩, ⟨Q', q1', q2'⟩, r', g', e'⟩ := L
  have n := fun x hx => F.2.2 x (hP x hx)
  exact ⟨⟨M, ⟨Q, (n _ (by omega)).trans q1, q2⟩, fun i hi => by
    obtain ⟨g, e⟩ := r i hi; exact ⟨g, (n _ (by omega)).trans e⟩, g, (n _ (by omega)).trans e⟩, ⟨Q', (n _ (by omega)).trans q1', q2'⟩, fun i hi => by
    obtain ⟨g, e⟩ := r' i hi; exact ⟨g, (n _ (by omega)).trans e⟩, g', (n _ (by omega)).trans e'⟩
theorem ly_O.set {n : Nat} (O : ly_O h0 h n) (L : ly_A h) (m : Nat) : ∃ e, jx_pF (jx_at h 336) 12 21 (.int (Int32.ofNat m)) = some e ∧ ly_O h0 (jx_set h 336 e) m ∧ ly_A (jx_set h 336 e) ∧ Fr (fun x => x = 336) h (jx_set h 336 e) := by
  obtain ⟨c1, c2, c3, c4, c5, c6, c7, c8, c9, c10, c11, c12, c13, z, e⟩ := O
  have F : Fr (fun x => x = 336) h (jx_set h 336 (m_obj c1 c2 c3 c4 c5 (Int32.ofNat m) c7 c8 c9 c10 c11 c12 c13)) := Fr.one
  exact ⟨m_obj c1 c2 c3 c4 c5 (Int32.ofNat m) c7 c8 c9 c10 c11 c12 c13, by rw [e]; rfl, ⟨c1, c2, c3, c4, c5, c6, c7, c8, c9, c10, c11, c12, c13, z, jk_at_self ..⟩, ly_A_fr F (by omega) ⟨_, _, _, _, _, _, _, _, _, _, _, _, _, jk_at_self ..⟩ L, F⟩
theorem rl_sel2 (L : ly_A h) (K : ∀ i, i < 12 → bt S i = true → ly_b h i (t i) ∧ tx_g (t i)) (d : Nat) : ∀ (m k j : Nat), k + m = 12 → j < 12 → bt S j = true → ∃ j', tx_s t S m k (some j) = some j' ∧ jb_166 rc (d + 2) 43 [(0, .ref 336), (2, .int S), (3, .int (Int32.ofNat j)), (4, .int (Int32.ofNat k))] [] h = jb_166 rc (d + 2) 76 [(0, .ref 336), (2, .int S), (3, .int (Int32.ofNat j')), (4, .int (0 : Int32))] [] h
  | 0, k, j, e, hj, bj => ⟨j, rfl, by rw [je_166_43, if_pos ((jk_12 (by omega)).mpr (by omega))]⟩
  | m + 1, k, j, e, hj, bj => by
    have hk : k < 12 := by omega
    rw [je_166_43, if_neg (jk_n12 hk), rf_has _ _ (by omega), jk_cI, jk_if0, show tx_s t S (m + 1) k (some j) = tx_s t S m (k + 1) (tx_t t S k (some j)) from rfl]
    by_cases z : bt S k = true
    · rw [if_pos z, L.g18, jk_bs, m_rows_q L.2.1 hk (by decide), jk_bs, jk_mos, L.g19, jk_bs, ly_blen hk (K k hk z).1, jk_bs, jk_bs, m_rows_q L.2.1 hj (by decide), jk_bs, jk_mos, jk_bs, ly_blen hj (K j hj bj).1, jk_bs, rl_ahead (K k hk z).1.1 (K j hj bj).1.1 (K k hk z).2 (K j hj bj).2, jk_cI, jk_if0]
      by_cases w : lx (t k) (t j) = true
      · rw [if_pos w, jk_succ, show tx_t t S k (some j) = some k by unfold tx_t; simp [z, w]]
        exact rl_sel2 L K d m (k + 1) k (by omega) hk z
      · rw [if_neg w, jk_succ, show tx_t t S k (some j) = some j by unfold tx_t; simp [z, w]]
        exact rl_sel2 L K d m (k + 1) j (by omega) hj bj
    · rw [if_neg z, jk_succ, show tx_t t S k (some j) = some j by unfold tx_t; simp [z]]
      exact rl_sel2 L K d m (k + 1) j (by omega) hj bj
theorem rl_copy2 {j : Nat} (hj : j < 12) (S : Int32) : ∀ (m k : Nat) (h : jxH), k + m = U.length → T.length + U.length ≤ 64 → ly_A h → ly_O h0 h (T.length + k) → ly_b h j U → tl_at h 429 (T ++ U.take k) → ∃ h', (∀ d, jb_166 rc d 76 [(0, .ref 336), (2, .int S), (3, .int (Int32.ofNat j)), (4, .int (Int32.ofNat k))] [] h = jb_166 rc d 34 [(0, .ref 336), (2, .int (S &&& (jk_bit j ^^^ (-1))))] [] h') ∧ ly_A h' ∧ ly_O h0 h' (T ++ U).length ∧ tl_at h' 429 (T ++ U) ∧ Fr (fun x => x = 336 ∨ x = 429) h h'
  | 0, k, h, e, hl, L, O, K, H => by
    have ek : k = U.length := by omega
    refine ⟨h, fun d => ?_, L, by rw [List.length_append, ← ek]; exact O, by rw [List.take_of_length_le (by omega)] at H; exact H, Fr.rfl⟩
    rw [je_166_76, L.g19, jk_bs, ly_blen hj K, jk_bs, if_pos (by rw [jk_le (by omega) (by omega)]; omega)]
    rfl
  | m + 1, k, h, e, hl, L, O, K, H => by
    have hk : k < U.length := by omega
    have lt : (T ++ U.take k).length = T.length + k := by rw [List.length_append, List.length_take]; omega
    obtain ⟨x, p1, p2⟩ := tl_put H (by omega) (U.getD k 0)
    rw [List.append_assoc, take_snoc hk] at p2
    rw [lt] at p1
    have F1 : Fr (fun x => x = 429) h (jx_set h 429 x) := Fr.one
    have L1 := ly_A_fr F1 (by omega) (L.1.1.fr F1 (by omega)) L
    have O1 := O.fr F1 (by omega)
    obtain ⟨y, y1, y2, y3, y4⟩ := O1.set L1 (T.length + (k + 1))
    have F2 : Fr (fun x => x = 336 ∨ x = 429) h (jx_set (jx_set h 429 x) 336 y) := (F1.mono fun x hx => Or.inr hx).trans (y4.mono fun x hx => Or.inl hx)
    obtain ⟨h1, t1, t2, t3, t4, t5⟩ := rl_copy2 hj S m (k + 1) _ (by omega) hl y3 y2 (ly_b_fr F2 (by omega) (by omega) K) (tl_fr y4 (by omega) p2)
    refine ⟨h1, fun d => ?_, t2, t3, t4, F2.trans t5⟩
    obtain ⟨⟨g, e1, q⟩, -⟩ := id K
    have sc : Int32.ofNat (T.length + k) + 1 = Int32.ofNat (T.length + (k + 1)) := jk_succ _
    rw [je_166_76, L.g19, jk_bs, ly_blen hj K, jk_bs, if_neg (by rw [jk_le (by omega) (by omega)]; omega), L.g20, jk_bs, O.g21, jk_bs, L.g18, jk_bs, m_rows_q L.2.1 hj (by decide), jk_bs, jk_mos, e1, jk_aI (by omega) (by decide), jk_bs, q k hk, p1, jk_bs, O1.g21, jk_bs, sc, y1, jk_bs, jk_succ]
    exact t1 d
theorem rl_cat2 : ∀ (m : Nat) (S : Int32) (T : List Nat) (h : jxH), m ≤ 12 → S12 S → bc S ≤ m → ly_A h → ly_O h0 h T.length → (∀ i, i < 12 → bt S i = true → ly_b h i (t i) ∧ tx_g (t i)) → tl_at h 429 T → T.length + (tx_c t m S).length ≤ 64 → ∃ h', (∀ d, jb_166 rc (d + 2) 34 [(0, .ref 336), (2, .int S)] [] h = some (none, h')) ∧ ly_A h' ∧ ly_O h0 h' (T ++ tx_c t m S).length ∧ tl_at h' 429 (T ++ tx_c t m S) ∧ Fr (fun x => x = 336 ∨ x = 429) h h' := by
  intro m
  induction m with
  | zero =>
    intro S T h hm s12 hS L O K H hl
    have z : S = 0 := bc_0 s12 (by omega)
    refine ⟨h, fun d => by rw [je_166_34, if_pos z], L, ?_, ?_, Fr.rfl⟩
    · unfold tx_c; rw [List.append_nil]; exact O
    · unfold tx_c; rw [List.append_nil]; exact H
  | succ m ih =>
    intro S T h hm s12 hS L O K H hl
    by_cases z : S = 0
    · have e : tx_c t (m + 1) S = tx_c t m S := by rw [tx_c_nil (fun k _ => by rw [z, bt_0]), tx_c_nil (fun k _ => by rw [z, bt_0])]
      rw [e] at hl ⊢
      exact ih S T h (by omega) s12 (by rw [z]; show bc 0 ≤ m; rw [show bc 0 = 0 by decide]; omega) L O K H hl
    · have ne : 0 < bc S := by
        rcases Nat.eq_zero_or_pos (bc S) with w | w
        · exact absurd (bc_0 s12 w) z
        · exact w
      obtain ⟨l, hlo⟩ := bc_lo ne
      obtain ⟨l1, l2, l3⟩ := lo_some.mp hlo
      obtain ⟨j, j1, -⟩ := rl_sel2 (rc := rc) L K 0 (11 - l) (l + 1) l (by omega) l1 l2
      have sl : tx_sl t S = some j := by rw [tx_sl_lo hlo]; exact j1
      obtain ⟨j12, bj⟩ := tx_sl_some sl
      have ce : tx_c t (m + 1) S = t j ++ tx_c t m (S &&& (jk_bit j ^^^ (-1))) := by
        show (match tx_sl t S with | none => [] | some j => t j ++ tx_c t m (S &&& (jk_bit j ^^^ (-1)))) = _
        rw [sl]
      have hl' := hl
      rw [ce, List.length_append] at hl'
      obtain ⟨h1, s1, s2, s3, s4, s5⟩ := rl_copy2 (rc := rc) (T := T) (U := t j) j12 S (t j).length 0 h (by omega) (by omega) L O (K j j12 bj).1 (by rw [List.take_zero, List.append_nil]; exact H)
      have cb := bc_clr_eq j12 bj
      obtain ⟨h2, t1, t2, t3, t4, t5⟩ := ih (S &&& (jk_bit j ^^^ (-1))) (T ++ t j) h1 (by omega) (fun k hk => by rw [bt_and, s12 k hk]; rfl) (by omega) s2 s3 (fun i i12 hi => by
        obtain ⟨k1, k2⟩ := K i i12 (clr_sub hi)
        exact ⟨ly_b_fr s5 (by omega) (by omega) k1, k2⟩) s4 (by rw [List.length_append]; omega)
      refine ⟨h2, fun d => ?_, t2, by rw [ce, ← List.append_assoc]; exact t3, by rw [ce, ← List.append_assoc]; exact t4, s5.trans t5⟩
      obtain ⟨j', j1', j2'⟩ := rl_sel2 (rc := rc) L K d (11 - l) (l + 1) l (by omega) l1 l2
      have : j' = j := by
        rw [j1] at j1'; injection j1' with e; exact e.symm
      subst this
      rw [je_166_34, if_neg z, rf_lowest _ hlo, jk_cI, jk_succ, j2']
      exact (s1 (d + 2)).trans (t1 d)
def jTr : Nat → Prop := fun x => 402 ≤ x ∧ x < 429
theorem rl_trees (W : jf_W f) (hb : b < 402 ∨ 429 ≤ b) : ∀ (m k : Nat) (h : jxH), k + m = 12 → ly_A h → ro_at h b f → (∀ l, bt (tx_R f k) l = true → ly_b h l (TB f 12 l)) → ∃ h', (∀ D, jb_166 rc (D + 16) 4 [(0, .ref 336), (1, .ref b), (2, .int (tx_R f k)), (3, .int (Int32.ofNat k))] [] h = jb_166 rc (D + 16) 4 [(0, .ref 336), (1, .ref b), (2, .int (tx_R f 12)), (3, .int (12 : Int32))] [] h') ∧ ly_A h' ∧ (∀ l, bt (tx_R f 12) l = true → ly_b h' l (TB f 12 l)) ∧ Fr jTr h h'
  | 0, k, h, e, L, H, K => by
    obtain rfl : k = 12 := by omega
    exact ⟨h, fun D => rfl, L, K, Fr.rfl⟩
  | m + 1, k, h, e, L, H, K => by
    have hk : k < 12 := by omega
    have st : ∀ D, jb_166 rc (D + 16) 4 [(0, .ref 336), (1, .ref b), (2, .int (tx_R f k)), (3, .int (Int32.ofNat k))] [] h = _ := fun D => by
      rw [je_166_4, if_neg (jk_n12 hk), ro_0 H, jk_bs, rf_has _ _ (by omega), jk_cI, jk_if0]
    by_cases sk : bt f.2.2 k = true
    · obtain ⟨l, hlo, lk, Tl, bl⟩ := tx_lo W.1 hk
      by_cases c : lo (jt_T f k) = some k
      · have Rk : tx_R f (k + 1) = tx_R f k ||| jk_bit k := if_pos ⟨sk, c⟩
        obtain ⟨h1, a1, a2, a3, a4, a5⟩ := rl_tree (rc := rc) W hb hk sk L H
        have F1 : Fr jTr h h1 := a5.mono fun x hx => by unfold jBe at hx; exact ⟨by omega, by omega⟩
        obtain ⟨h2, b1, b2, b3, b4⟩ := rl_trees W hb m (k + 1) h1 (by omega) a2 (ro_fr a5 (fun w => by unfold jBe at w; omega) H) (fun l' hl' => by
          by_cases y : l' = k
          · subst y; exact a3
          · have := (tx_R_bt (by omega)).mp hl'
            exact a4 l' _ (by omega) y (K l' ((tx_R_bt (by omega)).mpr ⟨by omega, this.2⟩)))
        refine ⟨h2, fun D => ?_, b2, b3, F1.trans b4⟩
        rw [st, if_pos sk, rf_treeOf H W.1.n hk, jk_cI, rf_lowest _ c, jk_cI, if_pos rfl, a1, jk_cV, jk_succ]
        have := b1 D
        rw [Rk] at this
        exact this
      · have Rk : tx_R f (k + 1) = tx_R f k := if_neg (fun z => c z.2)
        obtain ⟨h2, b1, b2, b3, b4⟩ := rl_trees W hb m (k + 1) h (by omega) L H (fun l' hl' => by rw [Rk] at hl'; exact K l' hl')
        refine ⟨h2, fun D => ?_, b2, b3, b4⟩
        have ne : l ≠ k := fun z => c (by rw [← z]; rw [z] at hlo ⊢; exact hlo)
        rw [st, if_pos sk, rf_treeOf H W.1.n hk, jk_cI, rf_lowest _ hlo, jk_cI, if_neg (by rw [jk_inj (by omega) (by omega)]; exact ne), jk_succ]
        have := b1 D
        rw [Rk] at this
        exact this
    · have Rk : tx_R f (k + 1) = tx_R f k := if_neg (fun z => sk z.1)
      obtain ⟨h2, b1, b2, b3, b4⟩ := rl_trees W hb m (k + 1) h (by omega) L H (fun l' hl' => by rw [Rk] at hl'; exact K l' hl')
      refine ⟨h2, fun D => ?_, b2, b3, b4⟩
      rw [st, if_neg sk, jk_succ]
      have := b1 D
      rw [Rk] at this
      exact this
/-- layText() -/
theorem rl_text (W : jf_W f) (hb : b < 402 ∨ 430 ≤ b) (hb2 : b ≠ 336) (L : ly_A h) (g429 : ∃ g, jx_at h 429 = jxI 0 64 g) (H : ro_at h b f) : ∃ h', (∀ D, jx_C rc (D + 17) 166 [.ref 336, .ref b] h = some (none, h')) ∧ ly_A h' ∧ ly_O h h' (TT f).length ∧ tl_at h' 429 (TT f) ∧ Fr (fun x => x = 336 ∨ (402 ≤ x ∧ x < 430)) h h' := by
  obtain ⟨h1, a1, a2, a3, a4⟩ := rl_trees (rc := rc) W (show b < 402 ∨ 429 ≤ b by omega) 12 0 h rfl L H (fun l hl => by unfold tx_R at hl; rw [bt_0] at hl; cases hl)
  have n1 : ¬ jTr 336 := fun w => by unfold jTr at w; omega
  have n2 : ¬ jTr 429 := fun w => by unfold jTr at w; omega
  obtain ⟨c1, c2, c3, c4, c5, c6, c7, c8, c9, c10, c11, c12, c13, oe⟩ := id L.1.1
  have F2 : Fr (fun x => x = 336) h1 (jx_set h1 336 (m_obj c1 c2 c3 c4 c5 (Int32.ofNat 0) c7 c8 c9 c10 c11 c12 c13)) := Fr.one
  have O2 : ly_O h (jx_set h1 336 (m_obj c1 c2 c3 c4 c5 (Int32.ofNat 0) c7 c8 c9 c10 c11 c12 c13)) 0 := ⟨c1, c2, c3, c4, c5, c6, c7, c8, c9, c10, c11, c12, c13, oe, jk_at_self ..⟩
  have L2 := ly_A_fr F2 (by omega) ⟨_, _, _, _, _, _, _, _, _, _, _, _, _, jk_at_self ..⟩ a2
  obtain ⟨g, eg⟩ := g429
  obtain ⟨h3, t1, t2, t3, t4, t5⟩ := rl_cat2 (rc := rc) (h0 := h) (t := TB f 12) 12 (tx_R f 12) [] _ (by omega) (tx_R_S 12 (by omega)) (bc_le _) L2 O2 (fun i hi hb => ⟨ly_b_fr F2 (by omega) (by omega) (a3 i hb), (TB_len W hi ((tx_R_bt (by omega)).mp hb).2.1 12 (by omega)).2⟩) ⟨g, (F2.2.2 _ (by omega)).trans ((a4.2.2 _ n2).trans eg), fun i hi => absurd hi (Nat.not_lt_zero i)⟩ (by have := TT_len W 12 (by omega); simp; omega)
  refine ⟨h3, fun D => ?_, t2, t3, t4, ((a4.mono fun x hx => by unfold jTr at hx; exact Or.inr ⟨by omega, by omega⟩).trans (F2.mono fun x hx => Or.inl hx)).trans (t5.mono fun x hx => by omega)⟩
  have p : jx_pF (jx_at h1 336) 12 21 (.int (0 : Int32)) = some (m_obj c1 c2 c3 c4 c5 (Int32.ofNat 0) c7 c8 c9 c10 c11 c12 c13) := by
    rw [a4.2.2 _ n1, oe]; rfl
  rw [je_166, if_pos L.1.is]
  refine (a1 D).trans ?_
  rw [je_166_4, if_pos (by decide), p, jk_bs]
  exact t1 (D + 14)
end
