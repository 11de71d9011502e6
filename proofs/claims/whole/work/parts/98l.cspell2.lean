/-! TEXTS: spell(): the least text of each tree, and all in order -/
/-- the least vertex of each tree, among the vertices below n -/
def tx_R (f : jF) : Nat → Int32
  | 0 => 0
  | n + 1 => if bt f.2.2 n = true ∧ lo (jt_T f n) = some n then tx_R f n ||| jk_bit n else tx_R f n
def TBo (f : jF) (T : Int32) (n : Nat) : Option Nat := tx_s (fun k => TX f k 0) T n 0 none
def TB (f : jF) (n l : Nat) : List Nat := match TBo f (jt_T f l) n with
  | some j => TX f j 0
  | none => []
def TT (f : jF) : List Nat := tx_c (TB f 12) 12 (tx_R f 12)
section
variable {t : Nat → List Nat} {S : Int32} {f : jF}
theorem tx_s_snoc : ∀ (m k : Nat) (b : Option Nat), tx_s t S (m + 1) k b = tx_t t S (k + m) (tx_s t S m k b)
  | 0, k, b => rfl
  | m + 1, k, b => by
    show tx_s t S (m + 1) (k + 1) (tx_t t S k b) = tx_t t S (k + (m + 1)) (tx_s t S m (k + 1) (tx_t t S k b))
    rw [tx_s_snoc m (k + 1), show k + 1 + m = k + (m + 1) by omega]
theorem TBo_succ (f : jF) (T : Int32) (n : Nat) : TBo f T (n + 1) = tx_t (fun k => TX f k 0) T n (TBo f T n) := by
  unfold TBo
  rw [tx_s_snoc, Nat.zero_add]
theorem TBo_in {T : Int32} {n j : Nat} (h : TBo f T n = some j) : j < n ∧ bt T j = true := by
  rcases tx_s_in h with z | z
  · cases z
  · exact ⟨by omega, z.2.2⟩
theorem tx_R_bt : ∀ {n l : Nat}, n ≤ 12 → (bt (tx_R f n) l = true ↔ l < n ∧ bt f.2.2 l = true ∧ lo (jt_T f l) = some l)
  | 0, l, hn => by unfold tx_R; rw [bt_0]; simp
  | n + 1, l, hn => by
    have ih := tx_R_bt (n := n) (l := l) (by omega)
    unfold tx_R
    by_cases c : bt f.2.2 n = true ∧ lo (jt_T f n) = some n
    · rw [if_pos c]
      by_cases z : l < 32
      · rw [bt_or, bt_bit (by omega) z, Bool.or_eq_true, ih, decide_eq_true_iff]
        constructor
        · rintro (h | rfl)
          · exact ⟨by omega, h.2⟩
          · exact ⟨by omega, c⟩
        · rintro ⟨a, b⟩
          by_cases w : l = n
          · exact Or.inr w
          · exact Or.inl ⟨by omega, b⟩
      · rw [bt_big _ (by omega)]
        simp; omega
    · rw [if_neg c, ih]
      constructor
      · rintro ⟨a, b⟩; exact ⟨by omega, b⟩
      · rintro ⟨a, b⟩
        refine ⟨?_, b⟩
        rcases Nat.lt_or_ge l n with w | w
        · exact w
        · obtain rfl : l = n := by omega
          exact absurd b c
theorem tx_R_S (n : Nat) (hn : n ≤ 12) : S12 (tx_R f n) := fun k hk => by
  cases w : bt (tx_R f n) k
  · rfl
  · have := ((tx_R_bt hn).mp w).1; omega
theorem tx_lo (B : jf_B f) {p : Nat} (hp : p < 12) : ∃ l, lo (jt_T f p) = some l ∧ l ≤ p ∧ jt_T f l = jt_T f p ∧ bt (jt_T f p) l = true := by
  obtain ⟨l, hl⟩ := bc_lo (bc_pos hp (jt_T_self f hp))
  obtain ⟨l1, l2, l3⟩ := lo_some.mp hl
  refine ⟨l, hl, ?_, jt_T_sym B hp l2, l2⟩
  rcases Nat.lt_or_ge p l with z | z
  · have := l3 p z; rw [jt_T_self f hp] at this; cases this
  · exact z
/-- the texts of all trees have room -/
theorem js_swap (g : Nat → Nat → Int) : ∀ n m : Nat, js (fun k => js (fun l => g k l) m) n = js (fun l => js (fun k => g k l) n) m
  | 0, m => by
    show (0 : Int) = js (fun l => 0) m
    rw [js_0]
  | n + 1, m => by
    have ih := js_swap g n m
    rw [show js (fun k => js (fun l => g k l) m) (n + 1) = js (fun k => js (fun l => g k l) m) n + js (fun l => g n l) m from rfl, ih, ← js_add]
    rfl
theorem TB_len (W : jf_W f) {l : Nat} (hl : l < 12) (sl : bt f.2.2 l = true) (n : Nat) (hn : n ≤ 12) : (TB f n l).length ≤ 5 * bc (jt_T f l) ∧ tx_g (TB f n l) := by
  unfold TB
  cases e : TBo f (jt_T f l) n with
  | none => exact ⟨Nat.zero_le _, Nat.zero_le _, fun b hb => by cases hb⟩
  | some j =>
    obtain ⟨j1, j2⟩ := TBo_in e
    have j12 : j < 12 := by omega
    have sj := (jt_T_in W.1 hl sl j2).2
    have := TX_len W (fun k hk => W.1.wt hk) j12 sj
    rw [jt_T_sym W.1 hl j2] at this
    have b := bc_le (jt_T f l)
    exact ⟨this, by dsimp only; omega, tx_good (fun k hk => W.1.wt hk) W.1.n 12 _ _ j12⟩
theorem TT_len (W : jf_W f) (n : Nat) (hn : n ≤ 12) : (tx_c (TB f n) 12 (tx_R f n)).length ≤ 60 := by
  have e := tx_c_len (t := TB f n) (bc_le (tx_R f n))
  have l1 : js (fun k => if bt (tx_R f n) k = true then ((TB f n k).length : Int) else 0) 12 ≤ js (fun k => js (fun v => if bt (tx_R f n) k = true then 5 * i01 (bt (jt_T f k) v) else 0) 12) 12 := js_le fun k hk => by
    by_cases z : bt (tx_R f n) k = true
    · rw [if_pos z, js_congr (h := fun v => (i01 (bt (jt_T f k) v) + i01 (bt (jt_T f k) v)) + (i01 (bt (jt_T f k) v) + (i01 (bt (jt_T f k) v) + i01 (bt (jt_T f k) v)))) (fun v hv => by rw [if_pos z]; omega), js_add, js_add, js_add, js_add, js_bc]
      have := (TB_len W hk ((tx_R_bt hn).mp z).2.1 n hn).1
      omega
    · rw [if_neg z]
      exact js_nonneg fun v hv => by rw [if_neg z]; exact Int.le_refl _
  rw [js_swap] at l1
  have l2 : js (fun v => js (fun k => if bt (tx_R f n) k = true then 5 * i01 (bt (jt_T f k) v) else 0) 12) 12 ≤ js (fun _ => 5) 12 := js_le fun v hv => by
    obtain ⟨l, hl, -, -, -⟩ := tx_lo W.1 hv
    have : js (fun k => if bt (tx_R f n) k = true then 5 * i01 (bt (jt_T f k) v) else 0) 12 ≤ js (fun k => if k = l then 5 else 0) 12 := js_le fun k hk => by
      by_cases z : bt (tx_R f n) k = true
      · rw [if_pos z]
        cases w : bt (jt_T f k) v
        · simp [i01]; split <;> decide
        · have lk := ((tx_R_bt hn).mp z).2.2
          rw [← jt_T_sym W.1 hk w, hl] at lk
          injection lk with lk
          rw [if_pos lk.symm]; decide
      · rw [if_neg z]; split <;> decide
    rw [js_delta (fun _ => 5), if_pos (lo_some.mp hl).1] at this
    exact this
  have : js (fun _ => 5) 12 = 60 := rfl
  omega
end
section
variable {rc : Nat → Nat × (Nat → Int32)} {h h' : jxH} {a b c g : Nat} {f : jF}
theorem wk_from_no (H : wk_ok h a) (G : fo_at h b f) (hab : b + 3 ≤ a ∨ a + 4 ≤ b) {p : Nat} (hp : p < 12) (sp : bt f.2.2 p = false) : ∃ h', (∀ d, jx_C rc (d + 2) 320 [.ref a, .ref b, .int (Int32.ofNat p)] h = some (none, h')) ∧ wk_at h' a (fun _ => 0) (fun _ => none) (fun _ => 0) 0 0 ∧ Fr (jI a 4) h h' := by
  obtain ⟨h1, e1, r1, r2⟩ := wk_clear H
  subst e1
  have G1 := fo_fr r2 (fun x q1 q2 z => by unfold jI at z; omega) G
  obtain ⟨⟨sz0, sn0, e0⟩, -⟩ := id H
  have o1 : jx_at (jx_set h a (jxO 10 [.ref (a + 1), .ref (a + 2), .ref (a + 3), .int 0, .int sn0])) a = jxO 10 [.ref (a + 1), .ref (a + 2), .ref (a + 3), .int 0, .int sn0] := jk_at_self ..
  refine ⟨_, fun d => ?_, r1, r2⟩
  rw [je_320, e0]
  show (if true = true then _ else _) = _
  rw [if_pos rfl, show jx_pF (jxO 10 [Value.ref (a + 1), Value.ref (a + 2), Value.ref (a + 3), Value.int sz0, Value.int sn0]) 10 3 (.int 0) = some (jxO 10 [Value.ref (a + 1), Value.ref (a + 2), Value.ref (a + 3), Value.int 0, Value.int sn0]) from rfl, jk_bs, o1, show jx_pF (jxO 10 [Value.ref (a + 1), Value.ref (a + 2), Value.ref (a + 3), Value.int 0, Value.int sn0]) 10 4 (.int 0) = some (jxO 10 [Value.ref (a + 1), Value.ref (a + 2), Value.ref (a + 3), Value.int 0, Value.int 0]) from rfl, jk_bs, jk_set_set, fo_has G1, jk_cI, show jF_has f (Int32.ofNat p) = bt f.2.2 p from jF_has_of hp, sp, jk_if0, if_neg (by decide)]
end
