/-! Small facts: ints by Nats, bits, the heap, frames -/
theorem jk_at_set (h : jxH) (a b : Nat) (e : jxE) : jx_at (jx_set h a e) b = if b = a then e else jx_at h b := rfl
theorem jk_at_self (h : jxH) (a : Nat) (e : jxE) : jx_at (jx_set h a e) a = e := by rw [jk_at_set, if_pos rfl]
theorem jk_at_ne (h : jxH) {a b : Nat} (e : jxE) (hb : b ≠ a) : jx_at (jx_set h a e) b = jx_at h b := by rw [jk_at_set, if_neg hb]
theorem jk_set_1 (h : jxH) (a : Nat) (e : jxE) : (jx_set h a e).1 = h.1 := rfl
theorem jk_set_2 (h : jxH) (a : Nat) (e : jxE) : (jx_set h a e).2.1 = h.2.1 := rfl
theorem jk_at_new (h : jxH) (n b : Nat) (e : jxE) : jx_at (jx_new h n e) b = if b = h.1 then e else jx_at h b := rfl
theorem jk_new_1 (h : jxH) (n : Nat) (e : jxE) : (jx_new h n e).1 = h.1 + 1 := rfl
theorem jk_new_2 (h : jxH) (n : Nat) (e : jxE) : (jx_new h n e).2.1 = h.2.1 + n := rfl
theorem jk_cI (x : Int32) (h : jxH) (f : Int32 → jxH → jxR) : jx_cI (some (some (.int x), h)) f = f x h := rfl
theorem jk_cL (x : Int64) (h : jxH) (f : Int64 → jxH → jxR) : jx_cL (some (some (.long x), h)) f = f x h := rfl
theorem jk_cV (h : jxH) (f : jxH → jxR) : jx_cV (some (none, h)) f = f h := rfl
theorem jk_cRs (x : Nat) (h : jxH) (f : Option Nat → jxH → jxR) : jx_cR (some (some (.ref x), h)) f = f (some x) h := rfl
theorem jk_cRn (h : jxH) (f : Option Nat → jxH → jxR) : jx_cR (some (some .null, h)) f = f none h := rfl
theorem jk_mos (x : Nat) (f : Nat → jxR) (g : jxR) : jx_mo (some x) f g = f x := rfl
theorem jk_mon (f : Nat → jxR) (g : jxR) : jx_mo none f g = g := rfl
theorem jk_bs {α β : Type} (x : α) (f : α → Option β) : (some x).bind f = f x := rfl
-- ints by Nats
theorem jk_lt {k m : Nat} (hk : k < 2 ^ 31) (hm : m < 2 ^ 31) : (Int32.ofNat k < Int32.ofNat m) ↔ k < m := Int32.ofNat_lt_iff_lt hk hm
theorem jk_le {k m : Nat} (hk : k < 2 ^ 31) (hm : m < 2 ^ 31) : (Int32.ofNat k ≤ Int32.ofNat m) ↔ k ≤ m := Int32.ofNat_le_iff_le hk hm
theorem jk_cl {k : Nat} (hk : k < 2 ^ 31) : (Int32.ofNat k).toNatClampNeg = k := Int32.toNatClampNeg_ofNat_of_lt hk
theorem jk_inj {k m : Nat} (hk : k < 2 ^ 31) (hm : m < 2 ^ 31) : (Int32.ofNat k = Int32.ofNat m) ↔ k = m :=
  ⟨fun h => by rw [← jk_cl hk, ← jk_cl hm, h], fun h => by rw [h]⟩
theorem jk_nn {k : Nat} (hk : k < 2 ^ 31) : ¬ Int32.ofNat k < 0 := by
  rw [show (0 : Int32) = Int32.ofNat 0 from rfl, jk_lt hk (by decide)]
  omega
theorem jk_ge {k : Nat} (hk : k < 2 ^ 31) : (0 : Int32) ≤ Int32.ofNat k := by
  rw [show (0 : Int32) = Int32.ofNat 0 from rfl, jk_le (by decide) hk]
  omega
theorem jk_12 {k : Nat} (hk : k < 2 ^ 31) : ((12 : Int32) ≤ Int32.ofNat k) ↔ 12 ≤ k := by
  rw [show (12 : Int32) = Int32.ofNat 12 from rfl, jk_le (by decide) hk]
theorem jk_n12 {k : Nat} (hk : k < 12) : ¬ (12 : Int32) ≤ Int32.ofNat k := by
  rw [jk_12 (by omega)]
  omega
theorem jk_l12 {k : Nat} (hk : k < 12) : Int32.ofNat k < (12 : Int32) := by
  rw [show (12 : Int32) = Int32.ofNat 12 from rfl, jk_lt (by omega) (by decide)]
  exact hk
theorem jk_succ (k : Nat) : Int32.ofNat k + 1 = Int32.ofNat (k + 1) := by
  rw [Int32.ofNat_add]; rfl
theorem jk_pred (k : Nat) : Int32.ofNat (k + 1) - 1 = Int32.ofNat k := by
  rw [Int32.ofNat_add]
  exact Int32.add_sub_cancel ..
theorem jk_of {x : Int32} (h : ¬ x < 0) : x = Int32.ofNat x.toNatClampNeg := (Int32.ofNat_toNatClampNeg x (by rw [Int32.le_iff_toInt_le]; rw [Int32.lt_iff_toInt_lt] at h; omega)).symm
theorem jk_of_lt (x : Int32) : x.toNatClampNeg < 2 ^ 31 := x.toNatClampNeg_lt
theorem jk_place {x : Int32} (h0 : ¬ x < 0) (h1 : ¬ (12 : Int32) ≤ x) : ∃ k : Nat, k < 12 ∧ x = Int32.ofNat k := by
  refine ⟨x.toNatClampNeg, ?_, jk_of h0⟩
  rw [jk_of h0, jk_12 (jk_of_lt x)] at h1
  omega
theorem jk_out {k n : Nat} (hk : k < 2 ^ 31) : jx_out (Int32.ofNat k) n = decide (n ≤ k) := by
  unfold jx_out
  rw [jk_cl hk, decide_eq_false (jk_nn hk), Bool.false_or]
theorem jk_outf {k n : Nat} (hk : k < n) (hn : n < 2 ^ 31) : jx_out (Int32.ofNat k) n = false := by
  rw [jk_out (by omega)]
  simp; exact hk
-- arrays
theorem jk_aI {t n k : Nat} {g : Nat → Int32} (hk : k < n) (hn : n < 2 ^ 31) : jx_aI (jxI t n g) t (Int32.ofNat k) = some (g k) := by
  unfold jx_aI jxI
  simp only [jk_outf hk hn, jk_cl (show k < 2 ^ 31 by omega), and_self, if_true]
theorem jk_sI {t n k : Nat} {g : Nat → Int32} {x : Int32} (hk : k < n) (hn : n < 2 ^ 31) : jx_sI (jxI t n g) t (Int32.ofNat k) x = some (jxI t n (upd g k x)) := by
  unfold jx_sI jxI
  simp only [jk_outf hk hn, jk_cl (show k < 2 ^ 31 by omega), and_self, if_true]
theorem jk_aL {n k : Nat} {g : Nat → Int64} (hk : k < n) (hn : n < 2 ^ 31) : jx_aL (jxL n g) (Int32.ofNat k) = some (g k) := by
  unfold jx_aL jxL
  simp only [jk_outf hk hn, jk_cl (show k < 2 ^ 31 by omega), and_self, if_true]
theorem jk_sL {n k : Nat} {g : Nat → Int64} {x : Int64} (hk : k < n) (hn : n < 2 ^ 31) : jx_sL (jxL n g) (Int32.ofNat k) x = some (jxL n (vp_updL g k x)) := by
  unfold jx_sL jxL
  simp only [jk_outf hk hn, jk_cl (show k < 2 ^ 31 by omega), and_self, if_true]
theorem jk_aQ {t n k : Nat} {g : Nat → Option Nat} (hk : k < n) (hn : n < 2 ^ 31) : jx_aQ (jxQ t n g) t (Int32.ofNat k) = some (g k) := by
  unfold jx_aQ jxQ
  simp only [jk_outf hk hn, jk_cl (show k < 2 ^ 31 by omega), and_self, if_true]
theorem jk_sQ {t n k : Nat} {g : Nat → Option Nat} {x : Option Nat} (hk : k < n) (hn : n < 2 ^ 31) : jx_sQ (jxQ t n g) t (Int32.ofNat k) x = some (jxQ t n (va_up g k x)) := by
  unfold jx_sQ jxQ
  simp only [jk_outf hk hn, jk_cl (show k < 2 ^ 31 by omega), and_self, if_true]
-- truth values
def jk_b (b : Bool) : Int32 := if b then 1 else 0
theorem jk_b0 (b : Bool) : (jk_b b = 0) = (b = false) := by cases b <;> simp [jk_b]
theorem jk_bb (b : Bool) : jx_bool (jk_b b) = true := by cases b <;> rfl
theorem jk_bt : jk_b true = 1 := rfl
theorem jk_bf : jk_b false = 0 := rfl
theorem jk_ite (b : Bool) {α : Type} (x y : α) : (if jk_b b = 0 then x else y) = if b = true then y else x := by cases b <;> rfl
-- bits
def bt (x : Int32) (k : Nat) : Bool := x.toBitVec.getLsbD k
def jk_bit (k : Nat) : Int32 := (1 : Int32) <<< (Int32.ofNat k &&& 31)
theorem jk_m31 : ∀ k : Nat, k < 32 → (Int32.ofNat k &&& 31).toBitVec.smod 32 = BitVec.ofNat 32 k := by decide +kernel
theorem bt_sr (x : Int32) {k : Nat} (hk : k < 32) : ((x >>> (Int32.ofNat k &&& 31)) &&& 1) = jk_b (bt x k) := by
  have h1 : (x >>> (Int32.ofNat k &&& 31)).toBitVec = x.toBitVec.sshiftRight k := by
    rw [Int32.toBitVec_shiftRight, BitVec.sshiftRight_eq', jk_m31 k hk, BitVec.toNat_ofNat, Nat.mod_eq_of_lt (by omega)]
  apply Int32.toBitVec_inj.1
  rw [Int32.toBitVec_and, h1]
  apply BitVec.eq_of_getLsbD_eq
  intro i hi
  rw [BitVec.getLsbD_and, BitVec.getLsbD_sshiftRight]
  unfold jk_b bt
  rcases Nat.eq_zero_or_pos i with rfl | hp
  · cases hb : x.toBitVec.getLsbD k <;> simp [hb, hk, show k + 0 < 32 by omega] <;> decide
  · have h2 : (1 : Int32).toBitVec.getLsbD i = false := by
      rw [Int32.toBitVec_one]; simp; omega
    rw [h2, Bool.and_false]
    cases hb : x.toBitVec.getLsbD k
    · simp
    · simp; omega
theorem bt_bit {k j : Nat} (hk : k < 32) (hj : j < 32) : bt (jk_bit k) j = decide (j = k) := by
  have h : ∀ k : Nat, k < 32 → ∀ j : Nat, j < 32 → bt (jk_bit k) j = decide (j = k) := by decide +kernel
  exact h k hk j hj
theorem bt_and (x y : Int32) (k : Nat) : bt (x &&& y) k = (bt x k && bt y k) := by
  unfold bt; rw [Int32.toBitVec_and, BitVec.getLsbD_and]
theorem bt_or (x y : Int32) (k : Nat) : bt (x ||| y) k = (bt x k || bt y k) := by
  unfold bt; rw [Int32.toBitVec_or, BitVec.getLsbD_or]
theorem bt_not (x : Int32) {k : Nat} (hk : k < 32) : bt (x ^^^ (-1)) k = !bt x k := by
  unfold bt; rw [Int32.xor_neg_one, Int32.toBitVec_not, BitVec.getLsbD_not]; simp [hk]
theorem bt_xor (x y : Int32) (k : Nat) : bt (x ^^^ y) k = Bool.xor (bt x k) (bt y k) := by
  unfold bt; rw [Int32.toBitVec_xor, BitVec.getLsbD_xor]
theorem bt_0 (k : Nat) : bt 0 k = false := by
  unfold bt; rw [Int32.toBitVec_zero]; simp
theorem bt_big (x : Int32) {k : Nat} (hk : 32 ≤ k) : bt x k = false := by
  unfold bt; exact BitVec.getLsbD_of_ge _ _ hk
theorem bt_ext {x y : Int32} (h : ∀ k, k < 32 → bt x k = bt y k) : x = y :=
  Int32.toBitVec_inj.1 (BitVec.eq_of_getLsbD_eq fun k hk => h k hk)
def S12 (x : Int32) : Prop := ∀ k, 12 ≤ k → bt x k = false
theorem S12_ext {x y : Int32} (hx : S12 x) (hy : S12 y) (h : ∀ k, k < 12 → bt x k = bt y k) : x = y :=
  bt_ext fun k _ => by
    by_cases hk : k < 12
    · exact h k hk
    · rw [hx k (by omega), hy k (by omega)]
theorem S12_0 : S12 0 := fun k _ => bt_0 k
theorem S12_and {x y : Int32} (hx : S12 x) : S12 (x &&& y) := fun k hk => by rw [bt_and, hx k hk, Bool.false_and]
theorem S12_and' {x y : Int32} (hy : S12 y) : S12 (x &&& y) := fun k hk => by rw [bt_and, hy k hk, Bool.and_false]
theorem S12_or {x y : Int32} (hx : S12 x) (hy : S12 y) : S12 (x ||| y) := fun k hk => by rw [bt_or, hx k hk, hy k hk]; rfl
theorem S12_bit {p : Nat} (hp : p < 12) : S12 (jk_bit p) := fun k hk => by
  by_cases h : k < 32
  · rw [bt_bit (by omega) h]; simp; omega
  · exact bt_big _ (by omega)
/-- a set of places as a number below 4096 -/
theorem S12_nat {x : Int32} (hx : S12 x) : ∃ n : Nat, n < 4096 ∧ x = Int32.ofNat n := by
  refine ⟨x.toBitVec.toNat, ?_, ?_⟩
  · apply Nat.lt_pow_two_of_testBit (n := 12)
    intro i hi
    exact hx i hi
  · apply Int32.toBitVec_inj.1
    rw [Int32.toBitVec_ofNat']
    simp
theorem bt_ofNat {n : Nat} (hn : n < 4096) (k : Nat) : bt (Int32.ofNat n) k = n.testBit k := by
  unfold bt
  rw [Int32.toBitVec_ofNat', BitVec.getLsbD_ofNat]
  by_cases hk : k < 32
  · simp [hk]
  · rw [Nat.testBit_lt_two_pow (Nat.lt_of_lt_of_le hn (Nat.le_trans (show 4096 ≤ 2 ^ 32 by decide) (Nat.pow_le_pow_right (by decide) (by omega)))), Bool.and_false]
theorem S12_of {n : Nat} (hn : n < 4096) : S12 (Int32.ofNat n) := fun k hk => by
  rw [bt_ofNat hn]
  exact Nat.testBit_lt_two_pow (Nat.lt_of_lt_of_le hn (Nat.pow_le_pow_right (n := 2) (by decide) hk))
/-- how many are in a set -/
def bc (x : Int32) : Nat := (List.range 12).countP (bt x)
theorem bc_le (x : Int32) : bc x ≤ 12 := by
  have h := List.countP_le_length (p := bt x) (l := List.range 12)
  rwa [List.length_range] at h
-- frames: what a run may write
def Fr (P : Nat → Prop) (h h' : jxH) : Prop := h'.1 = h.1 ∧ h'.2.1 = h.2.1 ∧ ∀ x, ¬ P x → jx_at h' x = jx_at h x
theorem Fr.rfl {P : Nat → Prop} {h : jxH} : Fr P h h := ⟨Eq.refl _, Eq.refl _, fun _ _ => Eq.refl _⟩
theorem Fr.trans {P : Nat → Prop} {h h1 h2 : jxH} (a : Fr P h h1) (b : Fr P h1 h2) : Fr P h h2 :=
  ⟨b.1.trans a.1, b.2.1.trans a.2.1, fun x hx => (b.2.2 x hx).trans (a.2.2 x hx)⟩
theorem Fr.mono {P Q : Nat → Prop} {h h1 : jxH} (a : Fr P h h1) (k : ∀ x, P x → Q x) : Fr Q h h1 :=
  ⟨a.1, a.2.1, fun x hx => a.2.2 x fun hp => hx (k x hp)⟩
theorem Fr.set {P : Nat → Prop} {h : jxH} {a : Nat} {e : jxE} (k : P a) : Fr P h (jx_set h a e) :=
  ⟨Eq.refl _, Eq.refl _, fun x hx => jk_at_ne h e fun q => hx (q ▸ k)⟩
theorem Fr.cons {P : Nat → Prop} {h h1 : jxH} {a : Nat} {e : jxE} (f : Fr P h h1) (k : P a) : Fr P h (jx_set h1 a e) := f.trans (Fr.set k)
def jI (a n : Nat) : Nat → Prop := fun x => a ≤ x ∧ x < a + n
