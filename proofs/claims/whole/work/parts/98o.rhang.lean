/-! TEXTS: the reference's rows; layHang -/
def tl_at (h : jxH) (a : Nat) (T : List Nat) : Prop := ∃ g, jx_at h a = jxI 0 64 g ∧ ∀ i, i < T.length → g i = Int32.ofNat (T.getD i 0)
theorem lx_g {T : List Nat} (hT : ∀ b, b ∈ T → b < 128) {k : Nat} (hk : k < T.length) : T.getD k 0 < 128 := tx_mem hT hk
section
variable {rc : Nat → Nat × (Nat → Int32)} {h h' : jxH} {a b : Nat} {T U : List Nat}
theorem tl_fr {P : Nat → Prop} (F : Fr P h h') (hP : ¬ P a) (H : tl_at h a T) : tl_at h' a T := by
  obtain ⟨g, e, q⟩ := H
  exact ⟨g, (F.2.2 _ hP).trans e, q⟩
theorem rl_ahead_e (lT : T.length ≤ 64) (lU : U.length ≤ 64) (d : Nat) {k : Nat} (hk : T.length ≤ k ∨ U.length ≤ k) (hk2 : k ≤ T.length ∧ k ≤ U.length) : jb_162 rc d 17 [(0, .ref a), (1, .int (Int32.ofNat T.length)), (2, .ref b), (3, .int (Int32.ofNat U.length)), (4, .int (Int32.ofNat k))] [] h = some (some (.int (jk_b (decide (T.length < U.length)))), h) := by
  have main : (if Int32.ofNat U.length ≤ Int32.ofNat T.length then (if jx_bool (0 : Int32) = true then some (some (.int (0 : Int32)), h) else none) else (if jx_bool (1 : Int32) = true then some (some (.int (1 : Int32)), h) else none) : jxR) = some (some (.int (jk_b (decide (T.length < U.length)))), h) := by
    by_cases z : T.length < U.length
    · rw [if_neg (by rw [jk_le (by omega) (by omega)]; omega), if_pos jk_b1, decide_eq_true z]; rfl
    · rw [if_pos (by rw [jk_le (by omega) (by omega)]; omega), if_pos jk_r0', decide_eq_false z]; rfl
  rw [je_162_17]
  by_cases z : T.length ≤ k
  · rw [if_pos (by rw [jk_le (by omega) (by omega)]; exact z)]; exact main
  · rw [if_neg (by rw [jk_le (by omega) (by omega)]; exact z), if_pos (by rw [jk_le (by omega) (by omega)]; omega)]; exact main
theorem rl_ahead_l (H : tl_at h a T) (K : tl_at h b U) (hT : ∀ b, b ∈ T → b < 128) (hU : ∀ b, b ∈ U → b < 128) (lT : T.length ≤ 64) (lU : U.length ≤ 64) (d : Nat) : ∀ (m k : Nat), k + m = min T.length U.length → jb_162 rc d 2 [(0, .ref a), (1, .int (Int32.ofNat T.length)), (2, .ref b), (3, .int (Int32.ofNat U.length)), (4, .int (Int32.ofNat k))] [] h = some (some (.int (jk_b (lx (T.drop k) (U.drop k)))), h)
  | 0, k, e => by
    rw [lx_out (by omega) (by omega), je_162_2]
    by_cases z : T.length ≤ k
    · rw [if_pos (by rw [jk_le (by omega) (by omega)]; exact z)]; exact rl_ahead_e lT lU d (by omega) (by omega)
    · rw [if_neg (by rw [jk_le (by omega) (by omega)]; exact z), if_pos (by rw [jk_le (by omega) (by omega)]; omega)]; exact rl_ahead_e lT lU d (by omega) (by omega)
  | m + 1, k, e => by
    obtain ⟨g, e1, q⟩ := id H
    obtain ⟨g', e1', q'⟩ := id K
    have bT := tx_mem hT (show k < T.length by omega)
    have bU := tx_mem hU (show k < U.length by omega)
    rw [je_162_2, if_neg (by rw [jk_le (by omega) (by omega)]; omega), if_neg (by rw [jk_le (by omega) (by omega)]; omega), e1, jk_aI (by omega) (by decide), jk_bs, e1', jk_aI (by omega) (by decide), jk_bs, q k (by omega), q' k (by omega), lx_drop (by omega) (by omega)]
    by_cases c : T.getD k 0 = U.getD k 0
    · rw [if_pos (by rw [c]), if_pos c, jk_succ]
      exact rl_ahead_l H K hT hU lT lU d m (k + 1) (by omega)
    · rw [if_neg (by rw [jk_inj (by omega) (by omega)]; exact c), if_neg c, je_162_17, if_neg (by rw [jk_le (by omega) (by omega)]; omega), if_neg (by rw [jk_le (by omega) (by omega)]; omega), e1, jk_aI (by omega) (by decide), jk_bs, e1', jk_aI (by omega) (by decide), jk_bs, q k (by omega), q' k (by omega)]
      by_cases z : T.getD k 0 < U.getD k 0
      · rw [if_neg (by rw [jk_le (by omega) (by omega)]; omega), if_pos jk_b1, decide_eq_true z]; rfl
      · rw [if_pos (by rw [jk_le (by omega) (by omega)]; omega), if_pos jk_r0', decide_eq_false z]; rfl
theorem rl_ahead (H : tl_at h a T) (K : tl_at h b U) (hT : tx_g T) (hU : tx_g U) (d : Nat) : jx_C rc (d + 1) 162 [.ref a, .int (Int32.ofNat T.length), .ref b, .int (Int32.ofNat U.length)] h = some (some (.int (jk_b (lx T U))), h) := by
  have l1 := hT.1
  have l2 := hU.1
  rw [je_162]
  exact rl_ahead_l H K hT.2 hU.2 (by omega) (by omega) d (min T.length U.length) 0 (by omega)
/-- a byte behind the others -/
theorem tl_put (H : tl_at h a T) (hl : T.length < 64) (w : Nat) : ∃ e, jx_sI (jx_at h a) 0 (Int32.ofNat T.length) (Int32.ofNat w) = some e ∧ tl_at (jx_set h a e) a (T ++ [w]) := by
  obtain ⟨g, e, q⟩ := H
  refine ⟨_, by rw [e]; exact jk_sI hl (by decide), upd g T.length (Int32.ofNat w), jk_at_self .., fun i hi => ?_⟩
  have hi : i < T.length + 1 := by simpa using hi
  unfold upd
  by_cases z : i = T.length
  · rw [if_pos z, getD_app_ge (by omega), z]; simp
  · rw [if_neg z, getD_app_lt (by omega)]
    exact q i (by omega)
theorem rl_num (H : tl_at h a T) {v : Nat} (hv : v ≤ 30) (hl : T.length + 2 ≤ 64) : ∃ h', (∀ d, jb_163 rc d 15 [(0, .ref a), (3, .int (Int32.ofNat T.length))] [.int (Int32.ofNat v)] h = some (some (.int (Int32.ofNat (T ++ tx_n v).length)), h')) ∧ tl_at h' a (T ++ tx_n v) ∧ Fr (fun x => x = a) h h' := by
  obtain ⟨e1, e2⟩ := jk_mod10 hv
  have s1 : (48 : Int32) + Int32.ofNat (v % 10) = Int32.ofNat (48 + v % 10) := jk_add2 48 _
  have s2 : (48 : Int32) + Int32.ofNat (v / 10) = Int32.ofNat (48 + v / 10) := jk_add2 48 _
  have le : (Int32.ofNat v ≤ 9) ↔ v ≤ 9 := by rw [show (9 : Int32) = Int32.ofNat 9 from rfl, jk_le (by omega) (by decide)]
  unfold tx_n
  by_cases c : 10 ≤ v
  · rw [if_pos c]
    obtain ⟨x1, p1, p2⟩ := tl_put H (by omega) (48 + v / 10)
    obtain ⟨x2, p3, p4⟩ := tl_put p2 (by simp; omega) (48 + v % 10)
    refine ⟨_, fun d => ?_, by rw [List.append_assoc] at p4; exact p4, Fr.one.cons (P := fun x => x = a) rfl⟩
    rw [je_163_15, if_neg (fun z => by have := le.mp z; omega), if_neg (by decide), e2, s2, p1, jk_bs, if_neg (by decide), ← e2, e1, s1, jk_succ, show T.length + 1 = (T ++ [48 + v / 10]).length by simp, p3, jk_bs, jk_succ, show (T ++ [48 + v / 10]).length + 1 = (T ++ [48 + v / 10, 48 + v % 10]).length by simp]
  · rw [if_neg c]
    obtain ⟨x1, p1, p2⟩ := tl_put H (by omega) (48 + v % 10)
    refine ⟨_, fun d => ?_, p2, Fr.one⟩
    rw [je_163_15, if_pos (le.mpr (by omega)), if_neg (by decide), e1, s1, p1, jk_bs, jk_succ]
    simp
/-- laysWeight() -/
theorem rl_weight (H : tl_at h a T) {w : Int32} (hw : jp_wt w = true) (hl : T.length + 3 ≤ 64) : ∃ h', (∀ d, jx_C rc (d + 1) 163 [.ref a, .int (Int32.ofNat T.length), .int w] h = some (some (.int (Int32.ofNat (T ++ tx_w w).length)), h')) ∧ tl_at h' a (T ++ tx_w w) ∧ Fr (fun x => x = a) h h' := by
  obtain ⟨v, v30, z | z⟩ := tx_w_abs hw
  · obtain ⟨z1, z2, z3⟩ := z
    obtain ⟨h1, r1, r2, r3⟩ := rl_num (rc := rc) H v30 (by omega)
    refine ⟨h1, fun d => ?_, by rw [z3]; exact r2, r3⟩
    rw [je_163, if_pos z1, if_pos z1, z3]
    have := r1 d
    rw [← z2] at this
    exact this
  · obtain ⟨z1, z2, z3⟩ := z
    obtain ⟨x1, p1, p2⟩ := tl_put H (by omega) 45
    obtain ⟨h1, r1, r2, r3⟩ := rl_num (rc := rc) p2 v30 (by simp; omega)
    have F1 : Fr (fun x => x = a) h (jx_set h a x1) := Fr.one
    refine ⟨h1, fun d => ?_, by rw [z3, ← List.singleton_append, ← List.append_assoc]; exact r2, F1.trans r3⟩
    rw [je_163, if_neg z1, show (45 : Int32) = Int32.ofNat 45 from rfl, p1, jk_bs, if_neg z1, jk_succ, z3]
    have := r1 d
    rw [← z2, List.length_append] at this
    rw [show Int32.ofNat (T.length + 1) = Int32.ofNat (T.length + [45].length) from rfl, this]
    simp
end
