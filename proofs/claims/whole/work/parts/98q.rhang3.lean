/-! TEXTS: layHang -/
def jLy : Nat → Prop := fun x => 402 ≤ x ∧ x < 415
section
variable {rc : Nat → Nat × (Nat → Int32)} {h h' : jxH} {b : Nat} {f : jF} {q : Nat} {o : Nat → Nat} {par : Nat → Option Nat} {sz : Nat}
/-- what is right at a vertex -/
def ly_k (f : jF) (par : Nat → Option Nat) (h : jxH) (v : Nat) : Prop := ly_c h v (TX f v (tx_u par v))
theorem rl_last (B : jf_B f) (J : wy_J f q o par sz) (hb : b < 402 ∨ 415 ≤ b) {i : Nat} (hi : i < sz) (L : ly_H h) (H : ro_at h b f) (K : ∀ k, k < 12 → bt (tx_d f par (o i)) k = true → ly_k f par h k) : ∃ h', (∀ d, jb_164 rc (d + 2) 18 [(0, .ref 336), (1, .ref b), (2, .int (Int32.ofNat (o i))), (4, .int (tx_d f par (o i))), (5, .int (Int32.ofNat 12))] [] h = some (none, h')) ∧ ly_H h' ∧ ly_k f par h' (o i) ∧ Fr jLy h h' ∧ ∀ j, j < sz → ly_k f par h (o j) → ly_k f par h' (o j) := by
  obtain ⟨oi, ti⟩ := J.2.2.2.2.1 i hi
  have wt := B.wt oi
  have lw := (tx_w_le wt).1
  have s12 : S12 (tx_d f par (o i)) := fun k hk => by unfold tx_d; rw [bt_and, B.n _ oi k hk]; rfl
  obtain ⟨g, eg⟩ := L.2.2.1 (o i) oi
  have T0 : tl_at h (402 + o i) [] := ⟨g, eg, fun i hi => absurd hi (Nat.not_lt_zero i)⟩
  obtain ⟨x, p1, p2⟩ := tl_put T0 (by decide) 40
  have F1 : Fr (fun x => x = 402 + o i) h (jx_set h (402 + o i) x) := Fr.one
  have L1 := ly_H_row L oi F1 p2
  have H1 := ro_fr F1 (by omega) H
  obtain ⟨h2, w1, w2, w3⟩ := rl_weight (rc := rc) p2 wt (by simp)
  have L2 := ly_H_row L1 oi w3 w2
  have F2 := F1.trans w3
  have nk := tx_kids B J hi
  have nv : bt (tx_d f par (o i)) (o i) = false := by
    cases w : bt (tx_d f par (o i)) (o i)
    · rfl
    · obtain ⟨j, l, hj, z, -⟩ := tx_low B J hi w
      have := J.2.2.2.2.2.2.1 j i hj hi z
      omega
  obtain ⟨h3, t1, t2, t3, t4, t5⟩ := rl_cat (rc := rc) (t := fun k => TX f k (tx_u par k)) oi 12 (tx_d f par (o i)) ([] ++ [40] ++ tx_w (f.1 (o i))) h2 (by omega) s12 (bc_le _) nv L2 (fun k hk hb => by
    obtain ⟨j, l, hj, rfl, -⟩ := tx_low B J hi hb
    exact ⟨ly_c_fr F2 (fun z => by
      have := J.2.2.2.2.2.2.1 j i hj hi (by omega)
      omega) (by omega) (K _ hk hb), TX_g B J hj⟩) w2 (by simp; omega)
  have own : ly_k f par h3 (o i) := by
    unfold ly_k
    rw [TX_eq B J hi]
    simpa using t3
  refine ⟨h3, fun d => ?_, t2, own, (F2.mono fun x hx => ⟨by omega, by omega⟩).trans (t4.mono fun x hx => ⟨by omega, by omega⟩), fun j hj C => ?_⟩
  · have p1' : jx_sI (jx_at h (402 + o i)) 0 (0 : Int32) (40 : Int32) = some x := p1
    rw [je_164_18, if_pos (by decide), L.g16, jk_bs, m_rows_q L.2.1 oi (by decide), jk_bs, jk_mos, p1', jk_bs, ro_w H1 oi, jk_bs, show (1 : Int32) = Int32.ofNat ([] ++ [40] : List Nat).length from rfl, w1, jk_cI]
    exact t1 d
  · by_cases z : j = i
    · subst z; exact own
    · have oj := (J.2.2.2.2.1 j hj).1
      have ne : o j ≠ o i := fun w => z (J.2.2.2.2.2.2.1 j i hj hi w)
      exact t5 _ _ oj ne (ly_c_fr F2 (by omega) (by omega) C)
theorem rl_hang (B : jf_B f) (J : wy_J f q o par sz) (hb : b < 402 ∨ 415 ≤ b) : ∀ (m i : Nat) (h : jxH), i < sz → sz - i ≤ m → ly_H h → ro_at h b f → ∃ h', (∀ D, jx_C rc (D + m + 3) 164 [.ref 336, .ref b, .int (Int32.ofNat (o i)), .int (jk_on (par (o i)))] h = some (none, h')) ∧ ly_H h' ∧ ly_k f par h' (o i) ∧ Fr jLy h h' ∧ ∀ j, j < sz → ly_k f par h (o j) → ly_k f par h' (o j) := by
  intro m
  induction m with
  | zero => intro i h hi hm; omega
  | succ m ih =>
    intro i h hi hm L H
    obtain ⟨oi, ti⟩ := J.2.2.2.2.1 i hi
    have loop : ∀ (n k : Nat) (h : jxH), k + n = 12 → ly_H h → ro_at h b f → (∀ k', k' < k → bt (tx_d f par (o i)) k' = true → ly_k f par h k') → ∃ h', (∀ D, jb_164 rc (D + m + 3) 18 [(0, .ref 336), (1, .ref b), (2, .int (Int32.ofNat (o i))), (4, .int (tx_d f par (o i))), (5, .int (Int32.ofNat k))] [] h = some (none, h')) ∧ ly_H h' ∧ ly_k f par h' (o i) ∧ Fr jLy h h' ∧ ∀ j, j < sz → ly_k f par h (o j) → ly_k f par h' (o j) := by
      intro n
      induction n with
      | zero =>
        intro k h e L H K
        obtain rfl : k = 12 := by omega
        obtain ⟨h1, e1, e2⟩ := rl_last (rc := rc) B J hb hi L H K
        exact ⟨h1, fun D => e1 (D + m + 1), e2⟩
      | succ n ihn =>
        intro k h e L H K
        have hk : k < 12 := by omega
        by_cases z : bt (tx_d f par (o i)) k = true
        · obtain ⟨j, l, hj, ej, pj⟩ := tx_low B J hi z
          subst ej
          obtain ⟨h1, r1, r2, r3, r4, r5⟩ := ih j h hj (by omega) L H
          obtain ⟨h2, s1, s2, s3, s4, s5⟩ := ihn (o j + 1) h1 (by omega) r2 (ro_fr r4 (fun w => by unfold jLy at w; omega) H) (fun k' hk' hb' => by
            obtain ⟨j', l', hj', e', -⟩ := tx_low B J hi hb'
            by_cases y : k' = o j
            · subst y; exact r3
            · have := K k' (by omega) hb'
              rw [← e'] at this ⊢
              exact r5 j' hj' this)
          refine ⟨h2, fun D => ?_, s2, s3, r4.trans s4, fun j' hj' C => s5 j' hj' (r5 j' hj' C)⟩
          have := r1 D
          rw [pj, show jk_on (some (o i)) = Int32.ofNat (o i) from rfl] at this
          rw [je_164_18, if_neg (jk_n12 hk), rf_has _ _ (by omega), jk_cI, jk_if0, if_pos z, this, jk_cV, jk_succ]
          exact s1 D
        · obtain ⟨h2, s1, s2⟩ := ihn (k + 1) h (by omega) L H (fun k' hk' hb' => by
            by_cases y : k' = k
            · subst y; exact absurd hb' z
            · exact K k' (by omega) hb')
          refine ⟨h2, fun D => ?_, s2⟩
          rw [je_164_18, if_neg (jk_n12 hk), rf_has _ _ (by omega), jk_cI, jk_if0, if_neg z, jk_succ]
          exact s1 D
    obtain ⟨h1, e1, e2⟩ := loop 12 0 h rfl L H (fun k hk => by omega)
    refine ⟨h1, fun D => ?_, e2⟩
    rw [show D + (m + 1) + 3 = (D + m + 3) + 1 by omega, je_164, if_pos L.is, ro_n H oi, jk_bs]
    cases e : par (o i) with
    | none =>
      have de : tx_d f par (o i) = f.2.1 (o i) &&& ((0 : Int32) ^^^ (-1 : Int32)) := by unfold tx_d tx_u; rw [e]
      rw [show jk_on none = -1 from rfl, if_neg (by decide)]
      rw [de] at e1
      exact e1 D
    | some y =>
      have y12 : y < 12 := by
        rcases Nat.eq_zero_or_pos i with z | z
        · rw [z, J.2.2.1, J.2.2.2.1] at e; cases e
        · obtain ⟨j, l, p1, p2⟩ := J.2.2.2.2.2.2.2.1 i z hi
          rw [e] at p1; injection p1 with p1; rw [p1]; exact (J.2.2.2.2.1 j (by omega)).1
      have de : tx_d f par (o i) = f.2.1 (o i) &&& (((1 : Int32) <<< (Int32.ofNat y &&& 31)) ^^^ (-1 : Int32)) := by unfold tx_d tx_u; rw [e]; rfl
      rw [show jk_on (some y) = Int32.ofNat y from rfl, if_pos (by rw [show (0 : Int32) = Int32.ofNat 0 from rfl, jk_le (by decide) (by omega)]; omega)]
      rw [de] at e1
      exact e1 D
end
