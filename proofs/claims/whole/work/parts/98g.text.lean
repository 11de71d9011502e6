/-! TEXTS: bytes in rows, which is ahead, weights; the class's rows -/
/-- which comes ahead in a dictionary -/
def lx : List Nat → List Nat → Bool
  | [], [] => false
  | [], _ :: _ => true
  | _ :: _, [] => false
  | a :: s, b :: t => if a = b then lx s t else decide (a < b)
def tx_g (T : List Nat) : Prop := T.length ≤ 60 ∧ ∀ b, b ∈ T → b < 128
/-- the bytes of a weight -/
def tx_n (v : Nat) : List Nat := if 10 ≤ v then [48 + v / 10, 48 + v % 10] else [48 + v % 10]
def tx_w (w : Int32) : List Nat := if 0 ≤ w then tx_n w.toNatClampNeg else 45 :: tx_n (-w).toNatClampNeg
theorem tx_n_le {v : Nat} (hv : v ≤ 30) : (tx_n v).length ≤ 2 ∧ 1 ≤ (tx_n v).length ∧ ∀ b, b ∈ tx_n v → b < 128 := by
  unfold tx_n
  split
  · refine ⟨by simp, by simp, fun b hb => ?_⟩
    simp at hb
    rcases hb with rfl | rfl <;> omega
  · refine ⟨by simp, by simp, fun b hb => ?_⟩
    simp at hb
    subst hb; omega
theorem tx_w_abs {w : Int32} (hw : jp_wt w = true) : ∃ v : Nat, v ≤ 30 ∧ ((0 ≤ w ∧ w = Int32.ofNat v ∧ tx_w w = tx_n v) ∨ (¬ 0 ≤ w ∧ -w = Int32.ofNat v ∧ tx_w w = 45 :: tx_n v)) := by
  have h := jp_wt_iff.mp hw
  have z0 : (0 : Int32).toInt = 0 := rfl
  by_cases c : 0 ≤ w
  · have c' := c
    rw [Int32.le_iff_toInt_le, z0] at c'
    have nn : ¬ w < 0 := by rw [Int32.lt_iff_toInt_lt, z0]; omega
    have e := jk_of nn
    have l := jk_of_lt w
    refine ⟨w.toNatClampNeg, ?_, Or.inl ⟨c, e, ?_⟩⟩
    · rw [e, jk_int l] at h; omega
    · unfold tx_w; rw [if_pos c]
  · have c' := c
    rw [Int32.le_iff_toInt_le, z0] at c'
    have en : (-w).toInt = -w.toInt := by rw [Int32.toInt_neg]; exact Int.bmod_eq_of_le (by omega) (by omega)
    have nn : ¬ -w < 0 := by rw [Int32.lt_iff_toInt_lt, z0, en]; omega
    have e := jk_of nn
    have l := jk_of_lt (-w)
    refine ⟨(-w).toNatClampNeg, ?_, Or.inr ⟨c, e, ?_⟩⟩
    · rw [e, jk_int l] at en; omega
    · unfold tx_w; rw [if_neg c]
theorem tx_w_le {w : Int32} (hw : jp_wt w = true) : (tx_w w).length ≤ 3 ∧ ∀ b, b ∈ tx_w w → b < 128 := by
  obtain ⟨v, v30, z | z⟩ := tx_w_abs hw
  · obtain ⟨a1, a2, a3⟩ := tx_n_le v30
    rw [z.2.2]; exact ⟨by omega, a3⟩
  · obtain ⟨a1, a2, a3⟩ := tx_n_le v30
    rw [z.2.2]
    refine ⟨by simp; omega, fun b hb => ?_⟩
    rcases List.mem_cons.mp hb with rfl | hb
    · omega
    · exact a3 b hb
theorem jk_i8 {b : Nat} (hb : b < 128) : (Int32.ofNat b).toInt8.toInt32 = Int32.ofNat b := by
  have h : ∀ b : Nat, b < 128 → (Int32.ofNat b).toInt8.toInt32 = Int32.ofNat b := by decide +kernel
  exact h b hb
theorem jk_mod10 {v : Nat} (hv : v ≤ 30) : Int32.ofNat v - Int32.ofNat v / 10 * 10 = Int32.ofNat (v % 10) ∧ Int32.ofNat v / 10 = Int32.ofNat (v / 10) := by
  have h : ∀ v : Nat, v ≤ 30 → Int32.ofNat v - Int32.ofNat v / 10 * 10 = Int32.ofNat (v % 10) ∧ Int32.ofNat v / 10 = Int32.ofNat (v / 10) := by decide +kernel
  exact h v hv
/-- a row of bytes -/
def tx_r (e : jxE) (t n : Nat) (T : List Nat) : Prop := ∃ g, e = jxI t n g ∧ ∀ i, i < T.length → g i = Int32.ofNat (T.getD i 0)
def tx_at (h : jxH) (a : Nat) (T : List Nat) : Prop := jx_at h a = jxO 8 [.ref (a + 1), .int (Int32.ofNat T.length)] ∧ tx_r (jx_at h (a + 1)) 2 60 T
theorem getD_app_lt {T U : List Nat} {i : Nat} (h : i < T.length) : (T ++ U).getD i 0 = T.getD i 0 := by
  simp [List.getD, List.getElem?_append, h]
theorem getD_app_ge {T U : List Nat} {i : Nat} (h : T.length ≤ i) : (T ++ U).getD i 0 = U.getD (i - T.length) 0 := by
  simp [List.getD, List.getElem?_append, show ¬ i < T.length by omega]
section
variable {rc : Nat → Nat × (Nat → Int32)} {h h' : jxH} {a b : Nat} {T U : List Nat}
theorem tx_okof (H : tx_at h a T) : tx_ok h a := ⟨⟨_, H.1⟩, by obtain ⟨g, e, -⟩ := H.2; exact ⟨g, e⟩⟩
theorem tx_at_fr {P : Nat → Prop} (F : Fr P h h') (hP : ∀ x, a ≤ x → x < a + 2 → ¬ P x) (H : tx_at h a T) : tx_at h' a T := by
  obtain ⟨o, g, e, q⟩ := H
  exact ⟨(F.2.2 _ (hP _ (by omega) (by omega))).trans o, g, (F.2.2 _ (hP _ (by omega) (by omega))).trans e, q⟩
theorem tx_is (H : tx_at h a T) : jx_is (jx_at h a) 8 = true := by rw [H.1]; rfl
theorem tx_g0 (H : tx_at h a T) : jx_gR (jx_at h a) 8 0 = some (a + 1) := by rw [H.1]; rfl
theorem tx_g1 (H : tx_at h a T) : jx_gI (jx_at h a) 8 1 = some (Int32.ofNat T.length) := by rw [H.1]; rfl
theorem tx_p1 (H : tx_at h a T) (x : Int32) : jx_pF (jx_at h a) 8 1 (.int x) = some (jxO 8 [.ref (a + 1), .int x]) := by rw [H.1]; rfl
/-- emptied -/
theorem tx_zero (K : tx_ok h a) : jx_pF (jx_at h a) 8 1 (.int 0) = some (jxO 8 [.ref (a + 1), .int 0]) ∧ tx_at (jx_set h a (jxO 8 [.ref (a + 1), .int 0])) a [] := by
  obtain ⟨⟨n, o⟩, g, e⟩ := K
  exact ⟨by rw [o]; rfl, jk_at_self .., g, (jk_at_ne _ _ (by omega)).trans e, fun i hi => absurd hi (Nat.not_lt_zero i)⟩
theorem tx_add (H : tx_at h a T) (hl : T.length < 60) {b : Nat} (hb : b < 128) : ∃ h', (∀ d, jx_C rc (d + 1) 305 [.ref a, .int (Int32.ofNat b)] h = some (none, h')) ∧ tx_at h' a (T ++ [b]) ∧ Fr (jI a 2) h h' := by
  obtain ⟨o, g, e, q⟩ := id H
  have F1 : Fr (jI a 2) h (jx_set h (a + 1) (jxI 2 60 (upd g T.length (Int32.ofNat b)))) := Fr.set ⟨by omega, by omega⟩
  have F2 : Fr (jI a 2) h (jx_set (jx_set h (a + 1) (jxI 2 60 (upd g T.length (Int32.ofNat b)))) a (jxO 8 [.ref (a + 1), .int (Int32.ofNat (T.length + 1))])) := F1.cons ⟨by omega, by omega⟩
  refine ⟨_, fun d => ?_, ⟨?_, upd g T.length (Int32.ofNat b), (jk_at_ne _ _ (by omega)).trans (jk_at_self ..), fun i hi => ?_⟩, F2⟩
  · rw [je_305, if_pos (tx_is H), tx_g1 H, jk_bs, if_neg (jk_nn (by omega)), jk_bs, if_neg (by rw [show (60 : Int32) = Int32.ofNat 60 from rfl, jk_le (by decide) (by omega)]; omega), tx_g0 H, jk_bs, jk_bs, e, jk_i8 hb, jk_i8 hb, jk_sI hl (by decide), jk_bs, jk_at_ne _ _ (by omega), tx_g1 H, jk_bs, tx_p1 H, jk_bs, jk_succ]
  · rw [jk_at_self]; simp
  · have hi : i < T.length + 1 := by simpa using hi
    unfold upd
    by_cases z : i = T.length
    · rw [if_pos z, getD_app_ge (by omega), z]; simp
    · rw [if_neg z, getD_app_lt (by omega)]
      exact q i (by omega)
theorem tx_addN (H : tx_at h a T) {v : Nat} (hv : v ≤ 30) (hl : T.length + 2 ≤ 60) : ∃ h', (∀ d, (if Int32.ofNat v < (10 : Int32) then if (10 : Int32) = 0 then none else jx_cV (jx_C rc (d + 1) 305 [.ref a, .int ((48 : Int32) + (Int32.ofNat v - Int32.ofNat v / (10 : Int32) * (10 : Int32)))] h) fun h1 => some (none, h1) else if (10 : Int32) = 0 then none else jx_cV (jx_C rc (d + 1) 305 [.ref a, .int ((48 : Int32) + (Int32.ofNat v / (10 : Int32)))] h) fun h2 => if (10 : Int32) = 0 then none else jx_cV (jx_C rc (d + 1) 305 [.ref a, .int ((48 : Int32) + (Int32.ofNat v - Int32.ofNat v / (10 : Int32) * (10 : Int32)))] h2) fun h3 => some (none, h3)) = some (none, h')) ∧ tx_at h' a (T ++ tx_n v) ∧ Fr (jI a 2) h h' := by
  obtain ⟨e1, e2⟩ := jk_mod10 hv
  have s1 : (48 : Int32) + Int32.ofNat (v % 10) = Int32.ofNat (48 + v % 10) := jk_add2 48 _
  have s2 : (48 : Int32) + Int32.ofNat (v / 10) = Int32.ofNat (48 + v / 10) := jk_add2 48 _
  have lt : (Int32.ofNat v < 10) ↔ v < 10 := by rw [show (10 : Int32) = Int32.ofNat 10 from rfl, jk_lt (by omega) (by decide)]
  unfold tx_n
  by_cases c : 10 ≤ v
  · rw [if_pos c]
    obtain ⟨h1, r1, r2, r3⟩ := tx_add (rc := rc) H (by omega) (show 48 + v / 10 < 128 by omega)
    obtain ⟨h2, t1, t2, t3⟩ := tx_add (rc := rc) r2 (by simp; omega) (show 48 + v % 10 < 128 by omega)
    refine ⟨h2, fun d => ?_, by rw [List.append_assoc] at t2; exact t2, r3.trans t3⟩
    rw [if_neg (fun z => by have := lt.mp z; omega), if_neg (by decide), e2, s2, r1, jk_cV, if_neg (by decide), ← e2, e1, s1, t1, jk_cV]
  · rw [if_neg c]
    obtain ⟨h1, r1, r2, r3⟩ := tx_add (rc := rc) H (by omega) (show 48 + v % 10 < 128 by omega)
    refine ⟨h1, fun d => ?_, r2, r3⟩
    rw [if_pos (lt.mpr (by omega)), if_neg (by decide), e1, s1, r1, jk_cV]
theorem tx_addW (H : tx_at h a T) {w : Int32} (hw : jp_wt w = true) (hl : T.length + 3 ≤ 60) : ∃ h', (∀ d, jx_C rc (d + 2) 306 [.ref a, .int w] h = some (none, h')) ∧ tx_at h' a (T ++ tx_w w) ∧ Fr (jI a 2) h h' := by
  obtain ⟨v, v30, z | z⟩ := tx_w_abs hw
  · obtain ⟨z1, z2, z3⟩ := z
    obtain ⟨h1, r1, r2, r3⟩ := tx_addN (rc := rc) H v30 (by omega)
    refine ⟨h1, fun d => ?_, by rw [z3]; exact r2, r3⟩
    rw [je_306, if_pos (tx_is H), if_pos z1, je_306_6, if_pos z1, z2]
    exact r1 d
  · obtain ⟨z1, z2, z3⟩ := z
    obtain ⟨h1, t1, t2, t3⟩ := tx_add (rc := rc) H (by omega) (show 45 < 128 by decide)
    obtain ⟨h2, r1, r2, r3⟩ := tx_addN (rc := rc) t2 v30 (by simp; omega)
    refine ⟨h2, fun d => ?_, by rw [z3, ← List.singleton_append, ← List.append_assoc]; exact r2, t3.trans r3⟩
    rw [je_306, if_pos (tx_is H), if_neg z1, je_306_6, if_neg z1, show (45 : Int32) = Int32.ofNat 45 from rfl, t1, jk_cV, z2]
    exact r1 d
theorem tx_addAll (H : tx_at h a T) (K : tx_at h b U) (hab : a + 2 ≤ b ∨ b + 2 ≤ a) (hl : T.length + U.length ≤ 60) : ∃ h', (∀ d, jx_C rc (d + 2) 307 [.ref a, .ref b] h = some (none, h')) ∧ tx_at h' a (T ++ U) ∧ Fr (jI a 2) h h' := by
  obtain ⟨o, g, e, q⟩ := id H
  obtain ⟨o', g', e', q'⟩ := id K
  have F1 : Fr (jI a 2) h (jx_set h (a + 1) (jxI 2 60 (va_cpy g' g 0 T.length U.length))) := Fr.set ⟨by omega, by omega⟩
  have F2 : Fr (jI a 2) h (jx_set (jx_set h (a + 1) (jxI 2 60 (va_cpy g' g 0 T.length U.length))) a (jxO 8 [.ref (a + 1), .int (Int32.ofNat (T.length + U.length))])) := F1.cons ⟨by omega, by omega⟩
  have cp : jx_cp (jxI 2 60 g') (jxI 2 60 g) 2 0 (Int32.ofNat T.length) (Int32.ofNat U.length) = some (jxI 2 60 (va_cpy g' g 0 T.length U.length)) := by
    unfold jx_cp jxI
    simp only [jk_cl (show T.length < 2 ^ 31 by omega), jk_cl (show U.length < 2 ^ 31 by omega), show (0 : Int32).toNatClampNeg = 0 from by decide]
    rw [if_pos ⟨trivial, trivial, by decide, jk_nn (by omega), jk_nn (by omega), by omega, by omega⟩]
  refine ⟨_, fun d => ?_, ⟨?_, va_cpy g' g 0 T.length U.length, (jk_at_ne _ _ (by omega)).trans (jk_at_self ..), fun i hi => ?_⟩, F2⟩
  · rw [je_307, if_pos (tx_is H), tx_g1 K, jk_bs, tx_g1 H, jk_bs, show (60 : Int32) = Int32.ofNat 60 from rfl, jk_subN (by omega), je_331, if_neg (by rw [jk_lt (by omega) (by omega)]; omega), jk_cI, je_330]
    have m0 : ∀ f, jx_cI (if (0 : Int32) < Int32.ofNat U.length then some (some (.int (Int32.ofNat U.length)), h) else some (some (.int 0), h)) f = f (Int32.ofNat U.length) h := fun f => by
      by_cases z : U.length = 0
      · rw [z]; rfl
      · rw [if_pos (by rw [show (0 : Int32) = Int32.ofNat 0 from rfl, jk_lt (by decide) (by omega)]; omega)]; rfl
    rw [m0]
    rw [tx_g1 H, jk_bs, if_neg (jk_nn (by omega)), tx_g0 K, jk_bs, tx_g0 H, jk_bs, jk_bs, e', e, cp, jk_bs, jk_at_ne _ _ (by omega), tx_g1 H, jk_bs, tx_p1 H, jk_bs, jk_add2]
  · rw [jk_at_self]; simp
  · have hi : i < T.length + U.length := by simpa using hi
    unfold va_cpy
    by_cases z : T.length ≤ i ∧ i < T.length + U.length
    · rw [if_pos z, getD_app_ge z.1, Nat.zero_add, q' _ (by omega)]
    · rw [if_neg z, getD_app_lt (by omega)]
      exact q i (by omega)
theorem getD_get {T : List Nat} {k : Nat} (h : k < T.length) : T.getD k 0 = T[k] := by simp [List.getD, h]
/-- the rest of two rows from k on -/
theorem lx_drop {k : Nat} (h1 : k < T.length) (h2 : k < U.length) : lx (T.drop k) (U.drop k) = if T.getD k 0 = U.getD k 0 then lx (T.drop (k + 1)) (U.drop (k + 1)) else decide (T.getD k 0 < U.getD k 0) := by
  rw [List.drop_eq_getElem_cons h1, List.drop_eq_getElem_cons h2]
  rw [getD_get h1, getD_get h2]
  rfl
theorem lx_out {k : Nat} (h : T.length ≤ k ∨ U.length ≤ k) (hk : k ≤ T.length ∧ k ≤ U.length) : lx (T.drop k) (U.drop k) = decide (T.length < U.length) := by
  rcases h with h | h
  · rw [List.drop_eq_nil_of_le h]
    by_cases z : T.length < U.length
    · rw [List.drop_eq_getElem_cons (show k < U.length by omega), decide_eq_true z]; rfl
    · rw [List.drop_eq_nil_of_le (show U.length ≤ k by omega), decide_eq_false z]; rfl
  · rw [List.drop_eq_nil_of_le h, decide_eq_false (by omega)]
    cases T.drop k <;> rfl
theorem tx_mem {T : List Nat} (g : ∀ b, b ∈ T → b < 128) {i : Nat} (hi : i < T.length) : T.getD i 0 < 128 := by
  rw [getD_get hi]; exact g _ (List.getElem_mem hi)
theorem tx_ahead_l (H : tx_at h a T) (K : tx_at h b U) (hT : tx_g T) (hU : tx_g U) (d : Nat) : ∀ (m k : Nat), k + m = min T.length U.length → jb_309 rc d 8 [(0, .ref a), (1, .ref b), (2, .int (Int32.ofNat (min T.length U.length))), (3, .int (Int32.ofNat k))] [] h = some (some (.int (jk_b (lx (T.drop k) (U.drop k)))), h)
  | 0, k, e => by
    have l1 := hT.1
    have l2 := hU.1
    rw [lx_out (by omega) (by omega), je_309_8, if_pos (by rw [jk_le (by omega) (by omega)]; omega), tx_g1 H, jk_bs, tx_g1 K, jk_bs]
    by_cases z : T.length < U.length
    · rw [if_neg (by rw [jk_le (by omega) (by omega)]; omega), if_pos jk_b1, decide_eq_true z]; rfl
    · rw [if_pos (by rw [jk_le (by omega) (by omega)]; omega), if_pos jk_r0', decide_eq_false z]; rfl
  | m + 1, k, e => by
    have l1 := hT.1
    have l2 := hU.1
    obtain ⟨o, g, e1, q⟩ := id H
    obtain ⟨o', g', e1', q'⟩ := id K
    have bT := tx_mem hT.2 (show k < T.length by omega)
    have bU := tx_mem hU.2 (show k < U.length by omega)
    rw [je_309_8, if_neg (by rw [jk_le (by omega) (by omega)]; omega), if_neg (by rw [show (60 : Int32) = Int32.ofNat 60 from rfl, jk_le (by decide) (by omega)]; omega), tx_g0 H, jk_bs, e1, jk_aI (by omega) (by decide), jk_bs, tx_g0 K, jk_bs, e1', jk_aI (by omega) (by decide), jk_bs, q k (by omega), q' k (by omega), jk_i8 bT, jk_i8 bU, lx_drop (by omega) (by omega)]
    by_cases c : T.getD k 0 = U.getD k 0
    · rw [if_pos (by rw [c]), if_pos c, jk_succ]
      exact tx_ahead_l H K hT hU d m (k + 1) (by omega)
    · rw [if_neg (by rw [jk_inj (by omega) (by omega)]; exact c), if_neg c, jk_bs, e1, jk_aI (by omega) (by decide), jk_bs, jk_bs, e1', jk_aI (by omega) (by decide), jk_bs, q k (by omega), q' k (by omega), jk_i8 bT, jk_i8 bU]
      by_cases z : T.getD k 0 < U.getD k 0
      · rw [if_neg (by rw [jk_le (by omega) (by omega)]; omega), if_pos jk_b1, decide_eq_true z]; rfl
      · rw [if_pos (by rw [jk_le (by omega) (by omega)]; omega), if_pos jk_r0', decide_eq_false z]; rfl
theorem tx_ahead (H : tx_at h a T) (K : tx_at h b U) (hT : tx_g T) (hU : tx_g U) (d : Nat) : jx_C rc (d + 2) 309 [.ref a, .ref b] h = some (some (.int (jk_b (lx T U))), h) := by
  have l1 := hT.1
  have l2 := hU.1
  have m : ∀ f, jx_cI (jx_C rc (d + 1) 331 [.int (Int32.ofNat T.length), .int (Int32.ofNat U.length)] h) f = f (Int32.ofNat (min T.length U.length)) h := fun f => by
    rw [je_331]
    by_cases z : U.length < T.length
    · rw [if_pos (by rw [jk_lt (by omega) (by omega)]; exact z), jk_cI, Nat.min_eq_right (by omega)]
    · rw [if_neg (by rw [jk_lt (by omega) (by omega)]; exact z), jk_cI, Nat.min_eq_left (by omega)]
  rw [je_309, if_pos (tx_is H), tx_g1 H, jk_bs, tx_g1 K, jk_bs, m]
  exact tx_ahead_l H K hT hU (d + 1) (min T.length U.length) 0 (by omega)
end
