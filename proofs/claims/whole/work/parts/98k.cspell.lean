/-! TEXTS: spellVertex() and spell() -/
theorem and_all (x : Int32) : x &&& (0 ^^^ (-1)) = x := bt_ext fun k hk => by rw [bt_and, bt_not _ hk, bt_0]; simp
section
variable {rc : Nat → Nat × (Nat → Int32)} {h h' : jxH} {a b c g : Nat} {t : Nat → List Nat} {S : Int32} {f : jF}
theorem sp_is (H : sp_ok h a) : jx_is (jx_at h a) 5 = true := by rw [H.1]; rfl
theorem sp_g0 (H : sp_ok h a) : jx_gR (jx_at h a) 5 0 = some (a + 1) := by rw [H.1]; rfl
theorem sp_g1 (H : sp_ok h a) : jx_gR (jx_at h a) 5 1 = some (a + 5) := by rw [H.1]; rfl
theorem sp_g2 (H : sp_ok h a) : jx_gR (jx_at h a) 5 2 = some (a + 6) := by rw [H.1]; rfl
theorem sp_Q1 (H : sp_ok h a) : tx_Q h (a + 5) (a + 7) := H.2.2.1
theorem sp_Q2 (H : sp_ok h a) : tx_Q h (a + 6) (a + 9) := H.2.2.2.1
theorem sp_t1 (H : sp_ok h a) {i : Nat} (hi : i < 12) : tx_ok h (a + 7 + 4 * i) := (H.2.2.2.2 i hi).1
theorem sp_t2 (H : sp_ok h a) {i : Nat} (hi : i < 12) : tx_ok h (a + 9 + 4 * i) := (H.2.2.2.2 i hi).2
/-- a text of the speller is written anew -/
theorem sp_put {s : Nat} {T : List Nat} (H : sp_ok h a) (hs : ∃ i, i < 12 ∧ (s = a + 7 + 4 * i ∨ s = a + 9 + 4 * i)) (F : Fr (jI s 2) h h') (K : tx_at h' s T) : sp_ok h' a := by
  obtain ⟨i, hi, e⟩ := hs
  have n : ∀ x, x < s ∨ s + 2 ≤ x → ¬ jI s 2 x := fun x hx w => by unfold jI at w; omega
  refine ⟨(F.2.2 _ (n _ (by omega))).trans H.1, wk_fr F (fun x x1 x2 => n x (by omega)) H.2.1, ?_, ?_, fun j hj => ⟨?_, ?_⟩⟩
  · obtain ⟨Q, q1, q2⟩ := H.2.2.1
    exact ⟨Q, (F.2.2 _ (n _ (by omega))).trans q1, q2⟩
  · obtain ⟨Q, q1, q2⟩ := H.2.2.2.1
    exact ⟨Q, (F.2.2 _ (n _ (by omega))).trans q1, q2⟩
  · by_cases z : s = a + 7 + 4 * j
    · rw [← z]; exact tx_okof K
    · exact tx_fr F (fun x x1 x2 => n x (by omega)) (sp_t1 H hj)
  · by_cases z : s = a + 9 + 4 * j
    · rw [← z]; exact tx_okof K
    · exact tx_fr F (fun x x1 x2 => n x (by omega)) (sp_t2 H hj)
theorem cc_tail (H : sp_ok h a) (G : fo_at h g f) (hg : g + 3 ≤ a ∨ a + 55 ≤ g) {v : Nat} (hv : v < 12) (hw : jp_wt (f.1 v) = true) (s12 : S12 S) (K : ∀ i, i < 12 → bt S i = true → i ≠ v ∧ tx_at h (a + 7 + 4 * i) (t i) ∧ tx_g (t i)) (hl : (tx_c t 12 S).length ≤ 55) : ∃ h', (∀ d, ((jx_pF (jx_at h (a + 7 + 4 * v)) 8 1 (.int (0 : Int32))).bind fun e8 =>
    jx_cV (jx_C rc (d + 4) 305 [.ref (a + 7 + 4 * v), .int (40 : Int32)] (jx_set h (a + 7 + 4 * v) e8)) fun h9 =>
    jx_cI (jx_C rc (d + 4) 228 [.ref g, .int (Int32.ofNat v)] h9) fun v11 h10 =>
    jx_cV (jx_C rc (d + 4) 306 [.ref (a + 7 + 4 * v), .int v11] h10) fun h12 =>
    (jx_gR (jx_at h12 a) 5 1).bind fun b13 =>
    jx_cV (jx_C rc (d + 4) 279 [.ref (a + 7 + 4 * v), .ref b13, .int S] h12) fun h14 =>
    jx_cV (jx_C rc (d + 4) 305 [.ref (a + 7 + 4 * v), .int (41 : Int32)] h14) fun h15 =>
    some (none, h15)) = some (none, h')) ∧ tx_at h' (a + 7 + 4 * v) (40 :: (tx_w (f.1 v) ++ (tx_c t 12 S ++ [41]))) ∧ Fr (jI (a + 7 + 4 * v) 2) h h' := by
  have lw := (tx_w_le hw).1
  obtain ⟨z1, z2⟩ := tx_zero (sp_t1 H hv)
  have F0 : Fr (jI (a + 7 + 4 * v) 2) h (jx_set h (a + 7 + 4 * v) (jxO 8 [.ref (a + 7 + 4 * v + 1), .int 0])) := Fr.set ⟨by omega, by omega⟩
  obtain ⟨h1, a1, a2, a3⟩ := tx_add (rc := rc) z2 (by decide) (show 40 < 128 by decide)
  obtain ⟨h2, b1, b2, b3⟩ := tx_addW (rc := rc) a2 hw (by simp)
  have F2 := (F0.trans a3).trans b3
  obtain ⟨h3, c1, c2, c3⟩ := cc_ino (rc := rc) (t := t) (b := a + 5) (c := a + 7) (by omega) (fun i hi hb => by have := (K i hi hb).1; omega) s12 (tx_Q_fr F2 (fun w => by unfold jI at w; omega) (sp_Q1 H)) (fun i hi hb => ⟨tx_at_fr F2 (fun x x1 x2 w => by have := (K i hi hb).1; unfold jI at w; omega) (K i hi hb).2.1, (K i hi hb).2.2⟩) b2 (by simp; omega)
  obtain ⟨h4, d1, d2, d3⟩ := tx_add (rc := rc) c2 (by simp; omega) (show 41 < 128 by decide)
  · refine ⟨h4, fun d => ?_, by simpa using d2, (F2.trans c3).trans d3⟩
    have G1 := fo_fr (F0.trans a3) (fun x x1 x2 w => by unfold jI at w; omega) G
    have g1 : jx_gR (jx_at h2 a) 5 1 = some (a + 5) := by rw [F2.2.2 a (fun w => by unfold jI at w; omega)]; exact sp_g1 H
    rw [z1, jk_bs, show (40 : Int32) = Int32.ofNat 40 from rfl, a1, jk_cV, fo_weightAt G1, jk_cI, jF_w_of hv, b1, jk_cV, g1, jk_bs, c1, jk_cV, show (41 : Int32) = Int32.ofNat 41 from rfl, d1, jk_cV]
end
section
variable {f : jF} {q : Nat} {o : Nat → Nat} {par : Nat → Option Nat} {sz : Nat}
theorem tx_kids (B : jf_B f) (J : wy_J f q o par sz) {i : Nat} (hi : i < sz) : (tx_c (fun k => TX f k (tx_u par k)) 12 (tx_d f par (o i))).length ≤ 55 := by
  obtain ⟨h0, h12, oq, pq, j1, j2, j3, j4, j5⟩ := id J
  let V : Nat → Bool := fun v => @decide (∃ j, i + 1 ≤ j ∧ j < sz ∧ o j = v) (Classical.propDecidable _)
  have hV : ∀ v, V v = true ↔ ∃ j, i + 1 ≤ j ∧ j < sz ∧ o j = v := fun v => by show @decide _ (Classical.propDecidable _) = true ↔ _; simp
  have ih := tx_A_le B (fun k hk => B.wt hk) J (sz - (i + 1)) (i + 1) V (by omega) hV
  have vown : V (o i) = false := by
    cases w : V (o i)
    · rfl
    · obtain ⟨j, a, b, c⟩ := (hV _).mp w
      have := j3 j i b hi c; omega
  have c1 : js (fun v => i01 (V v)) 12 ≤ 11 := by
    have : js (fun v => i01 (V v) + (if v = o i then 1 else 0)) 12 ≤ js (fun _ => 1) 12 := js_le fun v hv => by
      by_cases z : v = o i
      · rw [if_pos z, z, vown]; decide
      · rw [if_neg z]; cases V v <;> decide
    rw [js_add, js_delta (fun _ => 1), if_pos (j1 i hi).1, show js (fun _ => 1) 12 = 12 from rfl] at this
    omega
  have c2 : js (fun k => if bt (tx_d f par (o i)) k = true then ((TX f k (tx_u par k)).length : Int) else 0) 12 ≤ js (tx_A f par V) 12 := js_le fun v hv => by
    by_cases z : bt (tx_d f par (o i)) v = true
    · obtain ⟨j, l, hj, rfl, pe⟩ := tx_low B J hi z
      have : V (o j) = true := (hV _).mpr ⟨j, by omega, hj, rfl⟩
      unfold tx_A
      rw [if_pos z, pe]
      simp [this, vown]
    · rw [if_neg z]
      unfold tx_A
      split <;> omega
  have := tx_c_len (t := fun k => TX f k (tx_u par k)) (bc_le (tx_d f par (o i)))
  omega
theorem TX_g (B : jf_B f) (J : wy_J f q o par sz) {i : Nat} (hi : i < sz) : tx_g (TX f (o i) (tx_u par (o i))) := by
  refine ⟨?_, tx_good (fun k hk => B.wt hk) B.n 12 _ _ (J.2.2.2.2.1 i hi).1⟩
  rw [TX_eq B J hi]
  have := tx_kids B J hi
  have := (tx_w_le (B.wt (J.2.2.2.2.1 i hi).1)).1
  simp
  omega
end
/-- the texts of what hangs -/
def jHg (a : Nat) : Nat → Prop := fun x => ∃ i, i < 12 ∧ (x = a + 7 + 4 * i ∨ x = a + 8 + 4 * i)
section
variable {rc : Nat → Nat × (Nat → Int32)} {h h' : jxH} {a b c g : Nat} {t : Nat → List Nat} {S : Int32} {f : jF} {q : Nat} {o : Nat → Nat} {par : Nat → Option Nat} {dep : Nat → Nat} {sz : Nat}
theorem cc_spellVertex (W : jf_W f) (H : sp_ok h a) (G : fo_at h g f) (hg : g + 3 ≤ a ∨ a + 55 ≤ g) (Wk : wk_at h (a + 1) o par dep sz (jt_T f q)) (J : wy_J f q o par sz) {i : Nat} (hi : i < sz) (K : ∀ j, i < j → j < sz → tx_at h (a + 7 + 4 * o j) (TX f (o j) (tx_u par (o j)))) : ∃ h', (∀ d, jx_C rc (d + 5) 278 [.ref a, .ref g, .int (Int32.ofNat (o i))] h = some (none, h')) ∧ tx_at h' (a + 7 + 4 * o i) (TX f (o i) (tx_u par (o i))) ∧ Fr (jI (a + 7 + 4 * o i) 2) h h' := by
  have B := W.1
  obtain ⟨oi, ti⟩ := J.2.2.2.2.1 i hi
  have s12 : S12 (tx_d f par (o i)) := fun k hk => by unfold tx_d; rw [bt_and, B.n _ oi k hk]; rfl
  obtain ⟨h1, e1, e2, e3⟩ := cc_tail (rc := rc) (t := fun k => TX f k (tx_u par k)) H G hg oi (B.wt oi) s12 (fun k hk hb => by
    obtain ⟨j, l, hj, rfl, -⟩ := tx_low B J hi hb
    exact ⟨fun z => by have := J.2.2.2.2.2.2.1 j i hj hi z; omega, K j l hj, TX_g B J hj⟩) (tx_kids B J hi)
  refine ⟨h1, fun d => ?_, by rw [TX_eq B J hi]; exact e2, e3⟩
  obtain ⟨Q, q1, q2⟩ := sp_Q1 H
  rw [je_278, if_pos (sp_is H), cl_isPlace, jk_cI, jp_place_of oi, jk_if0, if_pos rfl, sp_g1 H, jk_bs, q1, jk_aQ oi (by decide), jk_bs, q2 _ oi, jk_mos, je_278_9, sp_g0 H, jk_bs, wk_holderOf Wk oi ti, jk_cI, cl_isPlace, jk_cI, jk_if0]
  cases e : par (o i) with
  | none =>
    have de : tx_d f par (o i) = f.2.1 (o i) := by unfold tx_d tx_u; rw [e]; exact and_all _
    rw [de] at e1
    rw [show jk_on none = -1 from rfl, if_neg (by decide), fo_nearsAt G, jk_cI, jF_n_of oi]
    exact e1 d
  | some y =>
    have y12 : y < 12 := by
      rcases Nat.eq_zero_or_pos i with z | z
      · rw [z, J.2.2.1, J.2.2.2.1] at e; cases e
      · obtain ⟨j, l, p1, p2⟩ := J.2.2.2.2.2.2.2.1 i z hi
        rw [e] at p1; injection p1 with p1; rw [p1]; exact (J.2.2.2.2.1 j (by omega)).1
    have de : tx_d f par (o i) = f.2.1 (o i) &&& (((1 : Int32) <<< (Int32.ofNat y &&& 31)) ^^^ (-1 : Int32)) := by unfold tx_d tx_u; rw [e]; rfl
    rw [de] at e1
    rw [show jk_on (some y) = Int32.ofNat y from rfl, jp_place_of y12, if_pos rfl, fo_nearsAt G, jk_cI, jF_n_of oi]
    exact e1 d
theorem cc_spellVertex_no (H : sp_ok h a) (d : Nat) : jx_C rc (d + 2) 278 [.ref a, .ref g, .int (-1)] h = some (none, h) := by
  rw [je_278, if_pos (sp_is H), cl_isPlace, jk_cI, show jp_place (-1) = false by decide, jk_if0, if_neg (by decide), je_278_9b]
theorem cc_hang_l (W : jf_W f) (hg : g + 3 ≤ a ∨ a + 55 ≤ g) (J : wy_J f q o par sz) : ∀ (m : Nat) (h : jxH), m ≤ 12 → sp_ok h a → fo_at h g f → wk_at h (a + 1) o par dep sz (jt_T f q) → (∀ j, m ≤ j → j < sz → tx_at h (a + 7 + 4 * o j) (TX f (o j) (tx_u par (o j)))) → ∃ h', (∀ d a2 x3 x4 x5 a6, jb_277 rc (d + 5) 37 [(0, .ref a), (1, .ref g), (2, .ref a2), (3, .int x3), (4, .int x4), (5, .int x5), (6, .ref a6), (7, .int (Int32.ofNat m + (-1)))] [] h = jb_277 rc (d + 5) 37 [(0, .ref a), (1, .ref g), (2, .ref a2), (3, .int x3), (4, .int x4), (5, .int x5), (6, .ref a6), (7, .int (-1))] [] h') ∧ sp_ok h' a ∧ (∀ j, j < sz → tx_at h' (a + 7 + 4 * o j) (TX f (o j) (tx_u par (o j)))) ∧ Fr (jHg a) h h'
  | 0, h, hm, H, G, Wk, K => ⟨h, fun d a2 x3 x4 x5 a6 => rfl, H, fun j hj => K j (Nat.zero_le _) hj, Fr.rfl⟩
  | m + 1, h, hm, H, G, Wk, K => by
    have pr : Int32.ofNat (m + 1) + (-1) = Int32.ofNat m := by rw [← jk_pred m]; exact (Int32.sub_eq_add_neg _ _).symm
    by_cases z : m < sz
    · obtain ⟨oi, ti⟩ := J.2.2.2.2.1 m z
      obtain ⟨h1, e1, e2, e3⟩ := cc_spellVertex (rc := rc) W H G hg Wk J z (fun j l hj => K j l hj)
      have F1 : Fr (jHg a) h h1 := e3.mono fun x ⟨x1, x2⟩ => ⟨o m, oi, by omega⟩
      obtain ⟨h2, t1, t2, t3, t4⟩ := cc_hang_l W hg J m h1 (by omega) (sp_put H ⟨o m, oi, Or.inl rfl⟩ e3 e2) (fo_fr e3 (fun x x1 x2 w => by unfold jI at w; omega) G) (wk_at_fr e3 (fun x x1 x2 w => by unfold jI at w; omega) Wk) (fun j l hj => by
        by_cases y : j = m
        · subst y; exact e2
        · have oj := (J.2.2.2.2.1 j hj).1
          have ne : o j ≠ o m := fun w => y (J.2.2.2.2.2.2.1 j m hj z w)
          exact tx_at_fr e3 (fun x x1 x2 w => by unfold jI at w; omega) (K j (by omega) hj))
      refine ⟨h2, fun d a2 x3 x4 x5 a6 => ?_, t2, t3, F1.trans t4⟩
      rw [je_277_37, pr, if_neg (jk_nn (by omega)), sp_g0 H, jk_bs, wk_placeAt Wk (by have := J.2.1; omega) (by omega), jk_cI, if_pos z, e1, jk_cV]
      exact t1 d a2 x3 x4 x5 a6
    · obtain ⟨h2, t1, t2, t3, t4⟩ := cc_hang_l W hg J m h (by omega) H G Wk (fun j l hj => K j (by omega) hj)
      refine ⟨h2, fun d a2 x3 x4 x5 a6 => ?_, t2, t3, t4⟩
      rw [je_277_37, pr, if_neg (jk_nn (by omega)), sp_g0 H, jk_bs, wk_placeAt Wk (by have := J.2.1; omega) (by omega), jk_cI, if_neg z, cc_spellVertex_no H, jk_cV]
      exact t1 d a2 x3 x4 x5 a6
end
