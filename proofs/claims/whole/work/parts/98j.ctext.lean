/-! TEXTS: the class's Speller -/
theorem jk_n12' {k : Nat} (h : k < 12) : ¬ Int32.ofNat 12 ≤ Int32.ofNat k := jk_n12 h
/-- twelve texts behind an array -/
def tx_Q (h : jxH) (b c : Nat) : Prop := ∃ Q, jx_at h b = jxQ 7 12 Q ∧ ∀ i, i < 12 → Q i = some (c + 4 * i)
section
variable {rc : Nat → Nat × (Nat → Int32)} {h h' : jxH} {a b c : Nat} {t : Nat → List Nat} {S : Int32}
theorem tx_Q_fr {P : Nat → Prop} (F : Fr P h h') (hb : ¬ P b) (H : tx_Q h b c) : tx_Q h' b c := by
  obtain ⟨Q, q1, q2⟩ := H
  exact ⟨Q, (F.2.2 _ hb).trans q1, q2⟩
theorem cc_ino_some (Q : tx_Q h b c) (K : ∀ i, i < 12 → bt S i = true → tx_at h (c + 4 * i) (t i) ∧ tx_g (t i)) (d : Nat) (x4 : Int32) : ∀ (m k j : Nat), k + m = 12 → j < 12 → bt S j = true → ∃ j', tx_s t S m k (some j) = some j' ∧ jb_279 rc (d + 2) 15 [(0, .ref a), (1, .ref b), (3, .int S), (4, .int x4), (5, .ref (c + 4 * j)), (6, .int (Int32.ofNat j)), (7, .int (Int32.ofNat k))] [] h = jb_279 rc (d + 2) 46 [(0, .ref a), (1, .ref b), (3, .int S), (4, .int x4), (5, .ref (c + 4 * j')), (6, .int (Int32.ofNat j'))] [] h
  | 0, k, j, e, hj, bj => ⟨j, rfl, by rw [je_279_15, if_pos ((jk_12 (by omega)).mpr (by omega))]⟩
  | m + 1, k, j, e, hj, bj => by
    obtain ⟨Q, q1, q2⟩ := id Q
    rw [je_279_15, if_neg (jk_n12 (show k < 12 by omega)), q1, show jx_len (jxQ 7 12 Q) = some 12 from rfl, jk_bs, if_neg (jk_n12' (show k < 12 by omega)), cl_isIn, jk_cI, jp_in_of (by omega), jk_if0, show tx_s t S (m + 1) k (some j) = tx_s t S m (k + 1) (tx_t t S k (some j)) from rfl]
    by_cases z : bt S k = true
    · rw [if_pos z, q1, jk_aQ (by omega) (by decide), jk_bs, q2 k (by omega), jk_mos, je_279_31, tx_ahead (K k (by omega) z).1 (K j hj bj).1 (K k (by omega) z).2 (K j hj bj).2, jk_cI, jk_if0]
      by_cases w : lx (t k) (t j) = true
      · rw [if_pos w, jk_succ, show tx_t t S k (some j) = some k by unfold tx_t; simp [z, w]]
        exact cc_ino_some ⟨Q, q1, q2⟩ K d x4 m (k + 1) k (by omega) (by omega) z
      · rw [if_neg w, jk_succ, show tx_t t S k (some j) = some j by unfold tx_t; simp [z, w]]
        exact cc_ino_some ⟨Q, q1, q2⟩ K d x4 m (k + 1) j (by omega) hj bj
    · rw [if_neg z, je_279_31b, jk_succ, show tx_t t S k (some j) = some j by unfold tx_t; simp [z]]
      exact cc_ino_some ⟨Q, q1, q2⟩ K d x4 m (k + 1) j (by omega) hj bj
theorem cc_ino_none (Q : tx_Q h b c) (K : ∀ i, i < 12 → bt S i = true → tx_at h (c + 4 * i) (t i) ∧ tx_g (t i)) (d : Nat) (x4 : Int32) {l : Nat} (hl : l < 12) (bl : bt S l = true) (h0 : ∀ i, i < l → bt S i = false) : ∀ (n k : Nat), k + n = l → ∃ j', tx_s t S (12 - k) k none = some j' ∧ jb_279 rc (d + 2) 15 [(0, .ref a), (1, .ref b), (3, .int S), (4, .int x4), (5, .null), (6, .int (0 : Int32)), (7, .int (Int32.ofNat k))] [] h = jb_279 rc (d + 2) 46 [(0, .ref a), (1, .ref b), (3, .int S), (4, .int x4), (5, .ref (c + 4 * j')), (6, .int (Int32.ofNat j'))] [] h
  | n, k, e => by
    obtain ⟨Q, q1, q2⟩ := id Q
    rw [je_279_15b, if_neg (jk_n12 (show k < 12 by omega)), q1, show jx_len (jxQ 7 12 Q) = some 12 from rfl, jk_bs, if_neg (jk_n12' (show k < 12 by omega)), cl_isIn, jk_cI, jp_in_of (by omega), jk_if0]
    rw [show 12 - k = (12 - (k + 1)) + 1 by omega, show tx_s t S ((12 - (k + 1)) + 1) k none = tx_s t S (12 - (k + 1)) (k + 1) (tx_t t S k none) from rfl]
    cases n with
    | zero =>
      obtain rfl : k = l := by omega
      rw [if_pos bl, q1, jk_aQ (by omega) (by decide), jk_bs, q2 k (by omega), jk_mos, je_279_31c, jk_succ, show tx_t t S k none = some k by unfold tx_t; simp [bl]]
      exact cc_ino_some ⟨Q, q1, q2⟩ K d x4 (12 - (k + 1)) (k + 1) k (by omega) hl bl
    | succ n =>
      have z := h0 k (by omega)
      rw [if_neg (by rw [z]; simp), je_279_31d, jk_succ, show tx_t t S k none = none by unfold tx_t; simp [z]]
      exact cc_ino_none ⟨Q, q1, q2⟩ K d x4 hl bl h0 n (k + 1) (by omega)
theorem cc_ino_l (hb : b + 1 ≤ a ∨ a + 2 ≤ b) : ∀ (m : Nat) (S : Int32) (T : List Nat) (h : jxH), m ≤ 12 → S12 S → bc S ≤ m → (∀ i, i < 12 → bt S i = true → a + 2 ≤ c + 4 * i ∨ c + 4 * i + 2 ≤ a) → tx_Q h b c → (∀ i, i < 12 → bt S i = true → tx_at h (c + 4 * i) (t i) ∧ tx_g (t i)) → tx_at h a T → T.length + (tx_c t m S).length ≤ 60 → ∃ h', (∀ d, jb_279 rc (d + 3) 4 [(0, .ref a), (1, .ref b), (3, .int S), (4, .int (Int32.ofNat (12 - m)))] [] h = some (none, h')) ∧ tx_at h' a (T ++ tx_c t m S) ∧ Fr (jI a 2) h h'
  | 0, S, T, h, hm, s12, hS, hc, Q, K, H, hl => ⟨h, fun d => by rw [je_279_4, if_pos (by decide)], by unfold tx_c; rw [List.append_nil]; exact H, Fr.rfl⟩
  | m + 1, S, T, h, hm, s12, hS, hc, Q, K, H, hl => by
    by_cases z : S = 0
    · refine ⟨h, fun d => ?_, ?_, Fr.rfl⟩
      · rw [je_279_4, if_neg (jk_n12 (by omega)), if_pos z]
      · rw [tx_c_nil (fun k _ => by rw [z, bt_0]), List.append_nil]; exact H
    · have ne : 0 < bc S := by
        rcases Nat.eq_zero_or_pos (bc S) with w | w
        · exact absurd (bc_0 s12 w) z
        · exact w
      obtain ⟨l, hlo⟩ := bc_lo ne
      obtain ⟨l1, l2, l3⟩ := lo_some.mp hlo
      obtain ⟨j, j1, -⟩ := cc_ino_none (rc := rc) (a := a) Q K 0 0 l1 l2 l3 l 0 (by omega)
      have sl : tx_sl t S = some j := j1
      obtain ⟨j12, bj⟩ := tx_sl_some sl
      have ce : tx_c t (m + 1) S = t j ++ tx_c t m (S &&& (jk_bit j ^^^ (-1))) := by
        show (match tx_sl t S with | none => [] | some j => t j ++ tx_c t m (S &&& (jk_bit j ^^^ (-1)))) = _
        rw [sl]
      have hl' := hl
      rw [ce, List.length_append] at hl'
      obtain ⟨h1, s1, s2, s3⟩ := tx_addAll (rc := rc) H (K j j12 bj).1 (hc j j12 bj) (by omega)
      have cb := bc_clr_eq j12 bj
      obtain ⟨h2, t1, t2, t3⟩ := cc_ino_l hb m (S &&& (jk_bit j ^^^ (-1))) (T ++ t j) h1 (by omega) (fun k hk => by rw [bt_and, s12 k hk]; rfl) (by omega) (fun i hi q => hc i hi (clr_sub q)) (tx_Q_fr s3 (fun w => by unfold jI at w; omega) Q) (fun i i12 hi => by
        obtain ⟨k1, k2⟩ := K i i12 (clr_sub hi)
        exact ⟨tx_at_fr s3 (fun x x1 x2 w => by unfold jI at w; have := hc i i12 (clr_sub hi); omega) k1, k2⟩) s2 (by rw [List.length_append]; omega)
      refine ⟨h2, fun d => ?_, ?_, s3.trans t3⟩
      · obtain ⟨j', j1', j2'⟩ := cc_ino_none (rc := rc) (a := a) Q K (d + 1) (Int32.ofNat (12 - (m + 1))) l1 l2 l3 l 0 (by omega)
        have : j' = j := by
          have e : tx_sl t S = some j' := j1'
          rw [sl] at e; injection e with e; exact e.symm
        subst this
        have j2' : jb_279 rc (d + 3) 15 [(0, .ref a), (1, .ref b), (3, .int S), (4, .int (Int32.ofNat (12 - (m + 1)))), (5, .null), (6, .int (0 : Int32)), (7, .int (0 : Int32))] [] h = _ := j2'
        rw [je_279_4, if_neg (jk_n12 (by omega)), if_neg z, j2', je_279_46, s1, jk_cV, jk_succ, show 12 - (m + 1) + 1 = 12 - m by omega]
        exact t1 d
      · rw [ce, ← List.append_assoc]; exact t2
/-- addInOrder() -/
theorem cc_ino (hb : b + 1 ≤ a ∨ a + 2 ≤ b) (hc : ∀ i, i < 12 → bt S i = true → a + 2 ≤ c + 4 * i ∨ c + 4 * i + 2 ≤ a) {T : List Nat} (s12 : S12 S) (Q : tx_Q h b c) (K : ∀ i, i < 12 → bt S i = true → tx_at h (c + 4 * i) (t i) ∧ tx_g (t i)) (H : tx_at h a T) (hl : T.length + (tx_c t 12 S).length ≤ 60) : ∃ h', (∀ d, jx_C rc (d + 4) 279 [.ref a, .ref b, .int S] h = some (none, h')) ∧ tx_at h' a (T ++ tx_c t 12 S) ∧ Fr (jI a 2) h h' := by
  obtain ⟨h1, s1, s2, s3⟩ := cc_ino_l (rc := rc) hb 12 S T h (by omega) s12 (bc_le _) hc Q K H hl
  exact ⟨h1, fun d => by rw [je_279]; exact s1 d, s2, s3⟩
end
