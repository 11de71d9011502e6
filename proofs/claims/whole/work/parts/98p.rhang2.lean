/-! TEXTS: layHang, from the choice of the next to the last byte -/
def ly_H (h : jxH) : Prop := MO h ∧ m_rows h 401 12 402 ∧ (∀ i, i < 12 → ∃ g, jx_at h (402 + i) = jxI 0 64 g) ∧ ∃ g, jx_at h 414 = jxI 0 12 g
def ly_c (h : jxH) (v : Nat) (T : List Nat) : Prop := tl_at h (402 + v) T ∧ ∃ G, jx_at h 414 = jxI 0 12 G ∧ G v = Int32.ofNat T.length
section
variable {rc : Nat → Nat × (Nat → Int32)} {h h' : jxH} {a b : Nat} {T U : List Nat} {t : Nat → List Nat} {S : Int32}
theorem ly_H.is (L : ly_H h) : jx_is (jx_at h 336) 12 = true := L.1.is
theorem ly_H.g16 (L : ly_H h) : jx_gR (jx_at h 336) 12 16 = some 401 := L.1.g 16 401 (by intros; rfl)
theorem ly_H.g17 (L : ly_H h) : jx_gR (jx_at h 336) 12 17 = some 414 := L.1.g 17 414 (by intros; rfl)
theorem ly_H_row (L : ly_H h) {v : Nat} (hv : v < 12) (F : Fr (fun x => x = 402 + v) h h') (K : tl_at h' (402 + v) T) : ly_H h' := by
  obtain ⟨M, r, q, g⟩ := L
  refine ⟨M.fr F (by omega), ?_, fun i hi => ?_, ?_⟩
  · obtain ⟨Q, q1, q2⟩ := r
    exact ⟨Q, (F.2.2 _ (by omega)).trans q1, q2⟩
  · by_cases z : i = v
    · obtain ⟨g, e, -⟩ := K; subst z; exact ⟨g, e⟩
    · obtain ⟨g, e⟩ := q i hi; exact ⟨g, (F.2.2 _ (by omega)).trans e⟩
  · obtain ⟨g, e⟩ := g
    exact ⟨g, (F.2.2 _ (by omega)).trans e⟩
theorem ly_c_fr {P : Nat → Prop} {v : Nat} (F : Fr P h h') (h1 : ¬ P (402 + v)) (h2 : ¬ P 414) (H : ly_c h v T) : ly_c h' v T := by
  obtain ⟨K, G, e, q⟩ := H
  exact ⟨tl_fr F h1 K, G, (F.2.2 _ h2).trans e, q⟩
theorem ly_len {v : Nat} (hv : v < 12) (H : ly_c h v T) : jx_aI (jx_at h 414) 0 (Int32.ofNat v) = some (Int32.ofNat T.length) := by
  obtain ⟨K, G, e, q⟩ := H
  rw [e, jk_aI hv (by decide), q]
theorem rl_sel (L : ly_H h) (K : ∀ i, i < 12 → bt S i = true → ly_c h i (t i) ∧ tx_g (t i)) (d : Nat) (x2 x6 : Int32) (a5 : Nat) : ∀ (m k j : Nat), k + m = 12 → j < 12 → bt S j = true → ∃ j', tx_s t S m k (some j) = some j' ∧ jb_164 rc (d + 2) 59 [(0, .ref 336), (2, .int x2), (4, .int S), (5, .ref a5), (6, .int x6), (7, .int (Int32.ofNat j)), (8, .int (Int32.ofNat k))] [] h = jb_164 rc (d + 2) 92 [(0, .ref 336), (2, .int x2), (4, .int S), (5, .ref a5), (6, .int x6), (7, .int (Int32.ofNat j')), (8, .int (0 : Int32))] [] h
  | 0, k, j, e, hj, bj => ⟨j, rfl, by rw [je_164_59b, if_pos ((jk_12 (by omega)).mpr (by omega))]⟩
  | m + 1, k, j, e, hj, bj => by
    have hk : k < 12 := by omega
    rw [je_164_59b, if_neg (jk_n12 hk), rf_has _ _ (by omega), jk_cI, jk_if0, show tx_s t S (m + 1) k (some j) = tx_s t S m (k + 1) (tx_t t S k (some j)) from rfl]
    by_cases z : bt S k = true
    · rw [if_pos z, L.g16, jk_bs, m_rows_q L.2.1 hk (by decide), jk_bs, jk_mos, L.g17, jk_bs, ly_len hk (K k hk z).1, jk_bs, jk_bs, m_rows_q L.2.1 hj (by decide), jk_bs, jk_mos, jk_bs, ly_len hj (K j hj bj).1, jk_bs, rl_ahead (K k hk z).1.1 (K j hj bj).1.1 (K k hk z).2 (K j hj bj).2, jk_cI, jk_if0]
      by_cases w : lx (t k) (t j) = true
      · rw [if_pos w, jk_succ, show tx_t t S k (some j) = some k by unfold tx_t; simp [z, w]]
        exact rl_sel L K d x2 x6 a5 m (k + 1) k (by omega) hk z
      · rw [if_neg w, jk_succ, show tx_t t S k (some j) = some j by unfold tx_t; simp [z, w]]
        exact rl_sel L K d x2 x6 a5 m (k + 1) j (by omega) hj bj
    · rw [if_neg z, jk_succ, show tx_t t S k (some j) = some j by unfold tx_t; simp [z]]
      exact rl_sel L K d x2 x6 a5 m (k + 1) j (by omega) hj bj
theorem take_snoc {U : List Nat} {k : Nat} (hk : k < U.length) : U.take k ++ [U.getD k 0] = U.take (k + 1) := by
  rw [getD_get hk]; exact (List.take_succ_eq_append_getElem hk).symm
theorem rl_copy {v j : Nat} (hv : v < 12) (hj : j < 12) (ne : v ≠ j) (d : Nat) (S : Int32) : ∀ (m k : Nat) (h : jxH), k + m = U.length → T.length + U.length ≤ 64 → ly_H h → ly_c h j U → tl_at h (402 + v) (T ++ U.take k) → ∃ h', (∀ d, jb_164 rc d 92 [(0, .ref 336), (2, .int (Int32.ofNat v)), (4, .int S), (5, .ref (402 + v)), (6, .int (Int32.ofNat (T.length + k))), (7, .int (Int32.ofNat j)), (8, .int (Int32.ofNat k))] [] h = jb_164 rc d 50 [(0, .ref 336), (2, .int (Int32.ofNat v)), (4, .int (S &&& (jk_bit j ^^^ (-1)))), (5, .ref (402 + v)), (6, .int (Int32.ofNat (T ++ U).length))] [] h') ∧ ly_H h' ∧ tl_at h' (402 + v) (T ++ U) ∧ Fr (fun x => x = 402 + v) h h'
  | 0, k, h, e, hl, L, K, H => by
    refine ⟨h, fun d => ?_, L, by rw [List.take_of_length_le (by omega)] at H; exact H, Fr.rfl⟩
    rw [je_164_92b, L.g17, jk_bs, ly_len hj K, jk_bs, if_pos (by rw [jk_le (by omega) (by omega)]; omega), List.length_append, show k = U.length by omega]
    rfl
  | m + 1, k, h, e, hl, L, K, H => by
    have hk : k < U.length := by omega
    have lt : (T ++ U.take k).length = T.length + k := by rw [List.length_append, List.length_take]; omega
    obtain ⟨x, p1, p2⟩ := tl_put H (by omega) (U.getD k 0)
    rw [List.append_assoc, take_snoc hk] at p2
    rw [lt] at p1
    have F1 : Fr (fun x => x = 402 + v) h (jx_set h (402 + v) x) := Fr.one
    obtain ⟨h1, t1, t2, t3, t4⟩ := rl_copy hv hj ne d S m (k + 1) _ (by omega) hl (ly_H_row L hv F1 p2) (ly_c_fr F1 (by omega) (by omega) K) p2
    refine ⟨h1, fun d => ?_, t2, t3, F1.trans t4⟩
    obtain ⟨⟨g, e1, q⟩, -⟩ := id K
    rw [je_164_92b, L.g17, jk_bs, ly_len hj K, jk_bs, if_neg (by rw [jk_le (by omega) (by omega)]; omega), L.g16, jk_bs, m_rows_q L.2.1 hj (by decide), jk_bs, jk_mos, e1, jk_aI (by omega) (by decide), jk_bs, q k hk, p1, jk_bs, jk_succ, jk_succ]
    exact t1 d
theorem rl_cat {v : Nat} (hv : v < 12) : ∀ (m : Nat) (S : Int32) (T : List Nat) (h : jxH), m ≤ 12 → S12 S → bc S ≤ m → bt S v = false → ly_H h → (∀ i, i < 12 → bt S i = true → ly_c h i (t i) ∧ tx_g (t i)) → tl_at h (402 + v) T → T.length + (tx_c t m S).length ≤ 63 → ∃ h', (∀ d, jb_164 rc (d + 2) 50 [(0, .ref 336), (2, .int (Int32.ofNat v)), (4, .int S), (5, .ref (402 + v)), (6, .int (Int32.ofNat T.length))] [] h = some (none, h')) ∧ ly_H h' ∧ ly_c h' v (T ++ tx_c t m S ++ [41]) ∧ Fr (fun x => x = 402 + v ∨ x = 414) h h' ∧ ∀ i U, i < 12 → i ≠ v → ly_c h i U → ly_c h' i U := by
  intro m
  induction m with
  | zero =>
    intro S T h hm s12 hS nv L K H hl
    have z : S = 0 := bc_0 s12 (by omega)
    obtain ⟨x, p1, p2⟩ := tl_put H (by omega) 41
    have F1 : Fr (fun x => x = 402 + v) h (jx_set h (402 + v) x) := Fr.one
    have L1 := ly_H_row L hv F1 p2
    obtain ⟨G, eG⟩ := L1.2.2.2
    have F2 : Fr (fun x => x = 414) (jx_set h (402 + v) x) (jx_set (jx_set h (402 + v) x) 414 (jxI 0 12 (upd G v (Int32.ofNat (T.length + 1))))) := Fr.one
    refine ⟨_, fun d => ?_, ?_, ⟨?_, upd G v (Int32.ofNat (T.length + 1)), jk_at_self .., ?_⟩, (F1.mono fun x hx => Or.inl hx).trans (F2.mono fun x hx => Or.inr hx), fun i U hi ne C => ?_⟩
    · rw [je_164_50b, if_pos z, show (41 : Int32) = Int32.ofNat 41 from rfl, p1, jk_bs, L1.g17, jk_bs, eG, jk_succ, jk_sI hv (by decide), jk_bs]
    · obtain ⟨M, r, q, g⟩ := L1
      refine ⟨M.fr F2 (by omega), ?_, fun i hi => ?_, _, jk_at_self ..⟩
      · obtain ⟨Q, q1, q2⟩ := r
        exact ⟨Q, (F2.2.2 _ (by omega)).trans q1, q2⟩
      · obtain ⟨g, e⟩ := q i hi; exact ⟨g, (F2.2.2 _ (by omega)).trans e⟩
    · have : tx_c t 0 S = [] := rfl
      rw [this, List.append_nil]
      exact tl_fr F2 (by omega) p2
    · unfold upd; rw [if_pos rfl]; simp [tx_c]
    · obtain ⟨K1, G', e', q'⟩ := ly_c_fr F1 (by omega) (by omega) C
      refine ⟨tl_fr F2 (by omega) K1, _, jk_at_self .., ?_⟩
      unfold upd
      rw [if_neg ne]
      have w := ly_len hi (ly_c_fr F1 (by omega) (by omega) C)
      rw [eG, jk_aI hi (by decide)] at w
      injection w
  | succ m ih =>
    intro S T h hm s12 hS nv L K H hl
    by_cases z : S = 0
    · have e : tx_c t (m + 1) S = tx_c t m S := by rw [tx_c_nil (fun k _ => by rw [z, bt_0]), tx_c_nil (fun k _ => by rw [z, bt_0])]
      rw [e] at hl ⊢
      exact ih S T h (by omega) s12 (by rw [z]; show bc 0 ≤ m; rw [show bc 0 = 0 by decide]; omega) nv L K H hl
    · have ne : 0 < bc S := by
        rcases Nat.eq_zero_or_pos (bc S) with w | w
        · exact absurd (bc_0 s12 w) z
        · exact w
      obtain ⟨l, hlo⟩ := bc_lo ne
      obtain ⟨l1, l2, l3⟩ := lo_some.mp hlo
      obtain ⟨j, j1, -⟩ := rl_sel (rc := rc) L K 0 0 0 0 (11 - l) (l + 1) l (by omega) l1 l2
      have sl : tx_sl t S = some j := by rw [tx_sl_lo hlo]; exact j1
      obtain ⟨j12, bj⟩ := tx_sl_some sl
      have vj : v ≠ j := fun w => by rw [w, bj] at nv; cases nv
      have ce : tx_c t (m + 1) S = t j ++ tx_c t m (S &&& (jk_bit j ^^^ (-1))) := by
        show (match tx_sl t S with | none => [] | some j => t j ++ tx_c t m (S &&& (jk_bit j ^^^ (-1)))) = _
        rw [sl]
      have hl' := hl
      rw [ce, List.length_append] at hl'
      obtain ⟨h1, s1, s2, s3, s4⟩ := rl_copy (rc := rc) (T := T) (U := t j) hv j12 vj 0 S (t j).length 0 h (by omega) (by omega) L (K j j12 bj).1 (by rw [List.take_zero, List.append_nil]; exact H)
      have cb := bc_clr_eq j12 bj
      obtain ⟨h2, t1, t2, t3, t4, t5⟩ := ih (S &&& (jk_bit j ^^^ (-1))) (T ++ t j) h1 (by omega) (fun k hk => by rw [bt_and, s12 k hk]; rfl) (by omega) (by rw [bt_and, nv]; rfl) s2 (fun i i12 hi => by
        obtain ⟨k1, k2⟩ := K i i12 (clr_sub hi)
        exact ⟨ly_c_fr s4 (fun w => by
          have : i = v := by omega
          have hi' := clr_sub hi
          rw [this, nv] at hi'; cases hi') (by omega) k1, k2⟩) s3 (by rw [List.length_append]; omega)
      refine ⟨h2, fun d => ?_, t2, ?_, (s4.mono fun x hx => Or.inl hx).trans t4, fun i U hi ne C => t5 i U hi ne (ly_c_fr s4 (by omega) (by omega) C)⟩
      · obtain ⟨j', j1', j2'⟩ := rl_sel (rc := rc) L K d (Int32.ofNat v) (Int32.ofNat T.length) (402 + v) (11 - l) (l + 1) l (by omega) l1 l2
        have : j' = j := by
          rw [j1] at j1'; injection j1' with e; exact e.symm
        subst this
        rw [je_164_50b, if_neg z, rf_lowest _ hlo, jk_cI, jk_succ, j2']
        have := s1 (d + 2)
        rw [Nat.add_zero] at this
        exact this.trans (t1 d)
      · rw [ce, ← List.append_assoc]; exact t3
end
