/-! KERNEL: the reference's elimination -/
-- what is left by a prime, over ints
theorem rm_pos {p : Nat} (hp : pr6 p) {z : Nat} (hz : z < 170) : Int32.ofNat z - Int32.ofNat z / Int32.ofNat p * Int32.ofNat p = Int32.ofNat (z % p) := by
  have : ∀ p : Nat, p < 14 → (p = 2 ∨ p = 3 ∨ p = 5 ∨ p = 7 ∨ p = 11 ∨ p = 13) → ∀ z : Nat, z < 170 → Int32.ofNat z - Int32.ofNat z / Int32.ofNat p * Int32.ofNat p = Int32.ofNat (z % p) := by decide +kernel
  exact this p (by have := pr6_pos hp; omega) hp z hz
theorem rm_neg {p : Nat} (hp : pr6 p) {z : Nat} (hz : z < 170) : (-(Int32.ofNat z)) - (-(Int32.ofNat z)) / Int32.ofNat p * Int32.ofNat p = -(Int32.ofNat (z % p)) := by
  have : ∀ p : Nat, p < 14 → (p = 2 ∨ p = 3 ∨ p = 5 ∨ p = 7 ∨ p = 11 ∨ p = 13) → ∀ z : Nat, z < 170 → (-(Int32.ofNat z)) - (-(Int32.ofNat z)) / Int32.ofNat p * Int32.ofNat p = -(Int32.ofNat (z % p)) := by decide +kernel
  exact this p (by have := pr6_pos hp; omega) hp z hz
/-- a residue as a Nat -/
def md (p : Nat) (z : Int) : Nat := (z % p).toNat
theorem md_lt {p : Nat} (hp : 0 < p) (z : Int) : md p z < p := by
  have r0 := Int.emod_nonneg z (show (p : Int) ≠ 0 by omega)
  have r1 := Int.emod_lt_of_pos z (show (0 : Int) < p by omega)
  unfold md; omega
theorem md_dvd {p : Nat} (hp : 0 < p) (z : Int) : (p : Int) ∣ (md p z : Int) - z := by
  have r0 := Int.emod_nonneg z (show (p : Int) ≠ 0 by omega)
  have e := Int.mul_ediv_add_emod z p
  refine ⟨-(z / p), ?_⟩
  unfold md
  rw [Int.toNat_of_nonneg r0, Int.mul_neg]
  omega
theorem md_small {p a : Nat} (h : a < p) : md p (a : Int) = a := by
  unfold md
  rw [Int.emod_eq_of_lt (by omega) (by omega)]
  exact Int.toNat_natCast a
section
variable {rc : Nat → Nat × (Nat → Int32)} {h h' : jxH} {f : jF} {σ : jSt} {p : Nat}
theorem rf_mod (hp : pr6 p) {z : Int} (h1 : -170 < z) (h2 : z < 170) (d : Nat) : jx_C rc (d + 1) 133 [.int (Int32.ofInt z), .int (Int32.ofNat p)] h = some (some (.int (Int32.ofNat (md p z))), h) := by
  have p2 := pr6_pos hp
  have pz : ¬ Int32.ofNat p = 0 := by
    rw [show (0 : Int32) = Int32.ofNat 0 from rfl, jk_inj (by omega) (by decide)]; omega
  rw [je_133, if_neg pz]
  by_cases c : 0 ≤ z
  · obtain ⟨n, rfl⟩ : ∃ n : Nat, z = n := ⟨z.toNat, by omega⟩
    have e : Int32.ofInt (n : Int) = Int32.ofNat n := rfl
    have l := Nat.mod_lt n (show 0 < p by omega)
    rw [e, rm_pos hp (by omega), if_pos (jk_ge (by omega))]
    have : md p (n : Int) = n % p := by unfold md; rw [← Int.natCast_emod]; exact Int.toNat_natCast _
    rw [this]
  · obtain ⟨n, hn, n0⟩ : ∃ n : Nat, z = -(n : Int) ∧ 0 < n := ⟨(-z).toNat, by omega, by omega⟩
    subst hn
    have e : Int32.ofInt (-(n : Int)) = -(Int32.ofNat n) := by rw [Int32.ofInt_neg]; rfl
    have l := Nat.mod_lt n (show 0 < p by omega)
    have em := Nat.div_add_mod n p
    rw [e, rm_neg hp (by omega)]
    by_cases y : n % p = 0
    · rw [y, if_pos (by decide)]
      have : md p (-(n : Int)) = 0 := by
        unfold md
        have : (-(n : Int)) % p = 0 := Int.emod_eq_zero_of_dvd ⟨-((n / p : Nat) : Int), by rw [Int.mul_neg, ← Int.natCast_mul]; omega⟩
        rw [this]; rfl
      rw [this]; rfl
    · have small : ∀ r : Nat, r < 14 → r ≠ 0 → ¬ (0 : Int32) ≤ -(Int32.ofNat r) := by decide
      rw [if_neg (small _ (by omega) y)]
      have : md p (-(n : Int)) = p - n % p := by
        unfold md
        have e1 : (-(n : Int)) % p = ((p - n % p : Nat) : Int) := by
          have : (-(n : Int)) = ((p - n % p : Nat) : Int) + p * (-((n / p : Nat) : Int) - 1) := by
            rw [Int.mul_sub, Int.mul_neg, ← Int.natCast_mul, Int.mul_one]; omega
          rw [this, Int.add_mul_emod_self_left, Int.emod_eq_of_lt (by omega) (by omega)]
        rw [e1]; exact Int.toNat_natCast _
      rw [this, ← jk_subN (by omega), Int32.sub_eq_add_neg, Int32.add_comm]
/-- inverse(), by trying -/
theorem rf_inv_l (hp : pr6 p) {v u : Nat} (hv : v < p) (hu : u < p) (huv : (u * v) % p = 1) : ∀ (m k : Nat), k + m = u → 1 ≤ k → ∃ w : Nat, w < p ∧ (w * v) % p = 1 ∧ ∀ d, jb_132 rc d 2 [(0, .int (Int32.ofNat v)), (1, .int (Int32.ofNat p)), (2, .int (Int32.ofNat k))] [] h = some (some (.int (Int32.ofNat w)), h) := by
  have p2 := pr6_pos hp
  have pz : ¬ Int32.ofNat p = 0 := by
    rw [show (0 : Int32) = Int32.ofNat 0 from rfl, jk_inj (by omega) (by decide)]; omega
  have lt : ∀ {k}, k < p → k * v < 170 := fun {k} hk => by
    have := Nat.mul_le_mul (show k ≤ 12 by omega) (show v ≤ 12 by omega)
    omega
  have st : ∀ {k}, k < p → ∀ d, jb_132 rc d 2 [(0, .int (Int32.ofNat v)), (1, .int (Int32.ofNat p)), (2, .int (Int32.ofNat k))] [] h = if (k * v) % p = 1 then some (some (.int (Int32.ofNat k)), h) else jb_132 rc d 2 [(0, .int (Int32.ofNat v)), (1, .int (Int32.ofNat p)), (2, .int (Int32.ofNat (k + 1)))] [] h := fun {k} hk d => by
    have l := Nat.mod_lt (k * v) (show 0 < p by omega)
    rw [je_132_2, if_neg pz, ← Int32.ofNat_mul, rm_pos hp (lt hk), jk_succ]
    by_cases c : (k * v) % p = 1
    · rw [if_pos c, if_pos (by rw [c]; rfl)]
    · rw [if_neg c, if_neg (by rw [show (1 : Int32) = Int32.ofNat 1 from rfl, jk_inj (by omega) (by decide)]; exact c)]
  intro m
  induction m with
  | zero =>
    intro k e hk
    obtain rfl : k = u := by omega
    exact ⟨k, hu, huv, fun d => by rw [st hu, if_pos huv]⟩
  | succ m ih =>
    intro k e hk
    have hk' : k < p := by omega
    by_cases c : (k * v) % p = 1
    · exact ⟨k, hk', c, fun d => by rw [st hk', if_pos c]⟩
    · obtain ⟨w, w1, w2, w3⟩ := ih (k + 1) (by omega) (by omega)
      exact ⟨w, w1, w2, fun d => by rw [st hk', if_neg c]; exact w3 d⟩
theorem MO.g9 (M : MO h) : jx_gR (jx_at h 336) 12 9 = some 385 := M.g 9 385 (by intros; rfl)
/-- the rows hold numbers -/
def rMt (h : jxH) (A : Nat → Nat → Nat) : Prop := ∀ i, i < 12 → ∃ g, jx_at h (386 + i) = jxI 0 12 g ∧ ∀ j, j < 12 → g j = Int32.ofNat (A i j)
abbrev jRw : Nat → Prop := fun x => 386 ≤ x ∧ x < 398
theorem rMt_set {A : Nat → Nat → Nat} (H : rMt h A) {i j : Nat} (hi : i < 12) (hj : j < 12) (v : Nat) : ∃ e, jx_sI (jx_at h (386 + i)) 0 (Int32.ofNat j) (Int32.ofNat v) = some e ∧ rMt (jx_set h (386 + i) e) (fun a b => if a = i ∧ b = j then v else A a b) ∧ Fr jRw h (jx_set h (386 + i) e) := by
  obtain ⟨g, e1, k1⟩ := H i hi
  refine ⟨jxI 0 12 (upd g j (Int32.ofNat v)), by rw [e1, jk_sI hj (by decide)], fun a ha => ?_, Fr.set (by show 386 ≤ 386 + i ∧ 386 + i < 398; omega)⟩
  by_cases z : a = i
  · subst z
    refine ⟨_, jk_at_self .., fun b hb => ?_⟩
    show upd g j (Int32.ofNat v) b = Int32.ofNat (if a = a ∧ b = j then v else A a b)
    unfold upd
    by_cases y : b = j
    · rw [if_pos y, if_pos ⟨rfl, y⟩]
    · rw [if_neg y, if_neg (fun w => y w.2)]; exact k1 b hb
  · obtain ⟨g', e2, k2⟩ := H a ha
    refine ⟨g', (jk_at_ne _ _ (by omega)).trans e2, fun b hb => ?_⟩
    show g' b = Int32.ofNat (if a = i ∧ b = j then v else A a b)
    rw [if_neg (fun w => z w.1)]; exact k2 b hb
theorem rMt_get {A : Nat → Nat → Nat} (H : rMt h A) {i j : Nat} (hi : i < 12) (hj : j < 12) : jx_aI (jx_at h (386 + i)) 0 (Int32.ofNat j) = some (Int32.ofNat (A i j)) := by
  obtain ⟨g, e1, k1⟩ := H i hi
  rw [e1, jk_aI hj (by decide), k1 j hj]
theorem rMt_congr {A B : Nat → Nat → Nat} (H : rMt h A) (e : ∀ i j, i < 12 → j < 12 → A i j = B i j) : rMt h B := fun i hi => by
  obtain ⟨g, e1, k1⟩ := H i hi
  exact ⟨g, e1, fun j hj => by rw [k1 j hj, e i j hi hj]⟩
/-- the reference, while it eliminates -/
def eO (h : jxH) (f : jF) : Prop := MO h ∧ m_rows h 385 12 386 ∧ ro_at h 338 f
theorem eO_fr (F : Fr jRw h h') (E : eO h f) : eO h' f := ⟨MO.fr F (by show ¬ (386 ≤ 336 ∧ 336 < 398); omega) E.1, rows_fr F (by show ¬ (386 ≤ 385 ∧ 385 < 398); omega) E.2.1, ro_fr F (by show ¬ (386 ≤ 338 ∧ 338 < 398); omega) E.2.2⟩
/-- the table's numbers -/
def kA (f : jF) (i j : Nat) : Int := if i = j then ew f i else ee f i j
def kA0 (p : Nat) (f : jF) (i j : Nat) : Nat := if bt f.2.2 i = true ∧ bt f.2.2 j = true then md p (kA f i j) else 0
theorem rf_row_q (hp : pr6 p) (B : jf_B f) {i : Nat} (hi : i < 12) : ∀ (m j : Nat) (h : jxH) (A : Nat → Nat → Nat), j + m = 12 → eO h f → rMt h A → (∀ b, b < j → A i b = kA0 p f i b) → ∃ h' A', (∀ d, jb_134 rc (d + 2) 7 [(0, .ref 336), (1, .int (Int32.ofNat p)), (2, .int (Int32.ofNat i)), (3, .int (Int32.ofNat j))] [] h = jb_134 rc (d + 2) 2 [(0, .ref 336), (1, .int (Int32.ofNat p)), (2, .int (Int32.ofNat (i + 1)))] [] h') ∧ eO h' f ∧ rMt h' A' ∧ (∀ b, b < 12 → A' i b = kA0 p f i b) ∧ (∀ a b, a ≠ i → A' a b = A a b) ∧ Fr jRw h h'
  | 0, j, h, A, e, E, H, hA => by
    obtain rfl : j = 12 := by omega
    exact ⟨h, A, fun d => by rw [je_134_7, if_pos (by decide), jk_succ], E, H, hA, fun _ _ _ => rfl, Fr.rfl⟩
  | m + 1, j, h, A, e, E, H, hA => by
    have hj : j < 12 := by omega
    obtain ⟨e1, s1, s2, s3⟩ := rMt_set H hi hj (kA0 p f i j)
    obtain ⟨h', A', r1, r2, r3, r4, r5, r6⟩ := rf_row_q hp B hi m (j + 1) _ _ (by omega) (eO_fr s3 E) s2 (fun b hb => by
      by_cases z : b = j
      · rw [z, if_pos ⟨rfl, rfl⟩]
      · rw [if_neg (fun w => z w.2)]; exact hA b (by omega))
    refine ⟨h', A', fun d => ?_, r2, r3, r4, fun a b ha => by rw [r5 a b ha, if_neg (fun w => ha w.1)], s3.trans r6⟩
    rw [je_134_7, if_neg (jk_n12 hj), E.1.g9, jk_bs, m_rows_q E.2.1 hi (by decide), jk_bs, jk_mos, E.1.g1, jk_bs, ro_0 E.2.2, jk_bs, rf_has _ _ (by omega), jk_cI, jk_if0]
    unfold kA0 at s1
    by_cases bi : bt f.2.2 i = true
    · rw [if_pos bi, E.1.g1, jk_bs, ro_0 E.2.2, jk_bs, rf_has _ _ (by omega), jk_cI, jk_if0]
      by_cases bj : bt f.2.2 j = true
      · rw [if_pos ⟨bi, bj⟩] at s1
        rw [if_pos bj, je_115, if_pos E.1.is]
        have s1' := s1
        by_cases ij : i = j
        · have ek : kA f i j = (f.1 i).toInt := if_pos ij
          have eo : f.1 i = Int32.ofInt (kA f i j) := by rw [ek]; exact (Int32.ofInt_toInt _).symm
          obtain ⟨w1, w2⟩ := ew_bd B hi
          have : kA f i j = ew f i := if_pos ij
          rw [if_pos (by rw [ij]), E.1.g1, jk_bs, ro_w E.2.2 hi, jk_bs, jk_cI, eo, rf_mod hp (by omega) (by omega), jk_cI, s1', jk_bs, jk_succ]
          exact r1 d
        · have ek : kA f i j = i01 (bt (f.2.1 i) j) := if_neg ij
          have k0 := i01_nn (bt (f.2.1 i) j)
          have k1 := i01_le (bt (f.2.1 i) j)
          have eo : (f.2.1 i >>> (Int32.ofNat j &&& 31)) &&& 1 = Int32.ofInt (kA f i j) := by
            rw [bt_sr _ (by omega), ek]
            cases bt (f.2.1 i) j <;> rfl
          rw [if_neg (by rw [jk_inj (by omega) (by omega)]; exact ij), E.1.g1, jk_bs, ro_n E.2.2 hi, jk_bs, jk_cI, eo, rf_mod hp (by omega) (by omega), jk_cI, s1', jk_bs, jk_succ]
          exact r1 d
      · rw [if_neg (fun w => bj w.2)] at s1
        rw [if_neg bj]
        have s1' : jx_sI (jx_at h (386 + i)) 0 (Int32.ofNat j) 0 = some e1 := s1
        rw [s1', jk_bs, jk_succ]
        exact r1 d
    · rw [if_neg (fun w => bi w.1)] at s1
      rw [if_neg bi]
      have s1' : jx_sI (jx_at h (386 + i)) 0 (Int32.ofNat j) 0 = some e1 := s1
      rw [s1', jk_bs, jk_succ]
      exact r1 d
theorem rf_rows_l (hp : pr6 p) (B : jf_B f) : ∀ (m i : Nat) (h : jxH) (A : Nat → Nat → Nat), i + m = 12 → eO h f → rMt h A → (∀ a b, a < i → b < 12 → A a b = kA0 p f a b) → ∃ h', (∀ d, jb_134 rc (d + 2) 2 [(0, .ref 336), (1, .int (Int32.ofNat p)), (2, .int (Int32.ofNat i))] [] h = some (none, h')) ∧ eO h' f ∧ rMt h' (kA0 p f) ∧ Fr jRw h h'
  | 0, i, h, A, e, E, H, hA => by
    obtain rfl : i = 12 := by omega
    exact ⟨h, fun d => by rw [je_134_2, if_pos (by decide)], E, rMt_congr H hA, Fr.rfl⟩
  | m + 1, i, h, A, e, E, H, hA => by
    have hi : i < 12 := by omega
    obtain ⟨h1, A1, r1, r2, r3, r4, r5, r6⟩ := rf_row_q (rc := rc) hp B hi 12 0 h A rfl E H (fun b hb => by omega)
    obtain ⟨h2, t1, t2, t3, t4⟩ := rf_rows_l hp B m (i + 1) h1 A1 (by omega) r2 r3 (fun a b ha hb => by
      by_cases z : a = i
      · rw [z]; exact r4 b hb
      · rw [r5 a b z]; exact hA a b (by omega) hb)
    refine ⟨h2, fun d => ?_, t2, t3, r6.trans t4⟩
    have := r1 d
    rw [show Int32.ofNat 0 = (0 : Int32) from rfl] at this
    rw [je_134_2, if_neg (jk_n12 hi), this]
    exact t1 d
/-- one row's new numbers -/
def kN (p : Nat) (A : Nat → Nat → Nat) (r i t q : Nat) : Nat := md p ((A i q : Int) - t * A r q)
theorem rf_el_q (hp : pr6 p) {A : Nat → Nat → Nat} (hA : ∀ a b, a < 12 → b < 12 → A a b < p) {r i t : Nat} (hr : r < 12) (hi : i < 12) (ht : t < p) (hri : i = r → t = 0) (us c u : Int32) : ∀ (m k : Nat) (h : jxH), k + m = 12 → eO h f → rMt h (fun a b => if a = i ∧ b < k then kN p A r i t b else A a b) → ∃ h', (∀ d, jb_135 rc (d + 2) 77 [(0, .ref 336), (1, .int (Int32.ofNat p)), (2, .int us), (3, .int c), (4, .int (Int32.ofNat r)), (5, .int u), (6, .int (Int32.ofNat i)), (7, .int (Int32.ofNat t)), (8, .int (Int32.ofNat k))] [] h = jb_135 rc (d + 2) 56 [(0, .ref 336), (1, .int (Int32.ofNat p)), (2, .int us), (3, .int c), (4, .int (Int32.ofNat r)), (5, .int u), (6, .int (Int32.ofNat (i + 1)))] [] h') ∧ eO h' f ∧ rMt h' (fun a b => if a = i then kN p A r i t b else A a b) ∧ Fr jRw h h'
  | 0, k, h, e, E, H => by
    obtain rfl : k = 12 := by omega
    refine ⟨h, fun d => by rw [je_135_77, if_pos (by decide), jk_succ], E, rMt_congr H (fun a b ha hb => ?_), Fr.rfl⟩
    by_cases z : a = i
    · rw [if_pos ⟨z, hb⟩, if_pos z]
    · rw [if_neg (fun w => z w.1), if_neg z]
  | m + 1, k, h, e, E, H => by
    have hk : k < 12 := by omega
    have p2 := pr6_pos hp
    obtain ⟨e1, s1, s2, s3⟩ := rMt_set H hi hk (kN p A r i t k)
    obtain ⟨h', r1, r2, r3, r4⟩ := rf_el_q hp hA hr hi ht hri us c u m (k + 1) _ (by omega) (eO_fr s3 E) (rMt_congr s2 (fun a b ha hb => by
      by_cases z : a = i
      · by_cases y : b = k
        · rw [if_pos ⟨z, y⟩, if_pos ⟨z, by omega⟩, y]
        · rw [if_neg (fun w => y w.2)]
          by_cases x : b < k
          · rw [if_pos ⟨z, x⟩, if_pos ⟨z, by omega⟩]
          · rw [if_neg (fun w => x w.2), if_neg (fun w => by omega)]
      · rw [if_neg (fun w => z w.1), if_neg (fun w => z w.1), if_neg (fun w => z w.1)]))
    refine ⟨h', fun d => ?_, r2, r3, s3.trans r4⟩
    have g1 := rMt_get H hi hk
    rw [if_neg (fun w => by omega)] at g1
    have g2 := rMt_get H hr hk
    rw [if_neg (fun w => by omega)] at g2
    have l1 := hA i k hi hk
    have l2 := hA r k hr hk
    have l3 := Nat.mul_le_mul (show t ≤ 12 by omega) (show A r k ≤ 12 by omega)
    have ez : Int32.ofNat (A i k) - Int32.ofNat t * Int32.ofNat (A r k) = Int32.ofInt ((A i k : Int) - t * A r k) := by
      rw [Int32.ofInt_sub, ← Int32.ofNat_mul]; rfl
    have l4 : ((t * A r k : Nat) : Int) = (t : Int) * A r k := Int.natCast_mul _ _
    rw [je_135_77, if_neg (jk_n12 hk), E.1.g9, jk_bs, m_rows_q E.2.1 hi (by decide), jk_bs, jk_mos, jk_bs, m_rows_q E.2.1 hi (by decide), jk_bs, jk_mos, g1, jk_bs, jk_bs, m_rows_q E.2.1 hr (by decide), jk_bs, jk_mos, g2, jk_bs, ez, rf_mod hp (by omega) (by omega), jk_cI]
    have s1 : jx_sI (jx_at h (386 + i)) 0 (Int32.ofNat k) (Int32.ofNat (md p ((A i k : Int) - t * A r k))) = some e1 := s1
    rw [s1, jk_bs, jk_succ]
    exact r1 d
/-- how often the chosen row is taken off -/
def kT (p : Nat) (A : Nat → Nat → Nat) (r c u i : Nat) : Nat := if i = r then 0 else (A i c * u) % p
theorem rf_el_i (hp : pr6 p) {A : Nat → Nat → Nat} (hA : ∀ a b, a < 12 → b < 12 → A a b < p) {r c u : Nat} (hr : r < 12) (hc : c < 12) (hu : u < p) (us : Int32) : ∀ (m i : Nat) (h : jxH), i + m = 12 → eO h f → rMt h (fun a b => if a < i then kN p A r a (kT p A r c u a) b else A a b) → ∃ h', (∀ d, jb_135 rc (d + 2) 56 [(0, .ref 336), (1, .int (Int32.ofNat p)), (2, .int us), (3, .int (Int32.ofNat c)), (4, .int (Int32.ofNat r)), (5, .int (Int32.ofNat u)), (6, .int (Int32.ofNat i))] [] h = jb_135 rc (d + 2) 7 [(0, .ref 336), (1, .int (Int32.ofNat p)), (2, .int us), (3, .int (Int32.ofNat (c + 1)))] [] h') ∧ eO h' f ∧ rMt h' (fun a b => kN p A r a (kT p A r c u a) b) ∧ Fr jRw h h'
  | 0, i, h, e, E, H => by
    obtain rfl : i = 12 := by omega
    exact ⟨h, fun d => by rw [je_135_56, if_pos (by decide), jk_succ], E, rMt_congr H (fun a b ha hb => by rw [if_pos ha]), Fr.rfl⟩
  | m + 1, i, h, e, E, H => by
    have hi : i < 12 := by omega
    have p2 := pr6_pos hp
    have hB : ∀ a b, a < 12 → b < 12 → (if a < i then kN p A r a (kT p A r c u a) b else A a b) < p := fun a b ha hb => by
      split
      · exact md_lt (by omega) _
      · exact hA a b ha hb
    have tl : kT p A r c u i < p := by
      unfold kT
      split
      · omega
      · exact Nat.mod_lt _ (by omega)
    -- the chosen row stays as it is
    have same : ∀ b, b < 12 → (if r < i then kN p A r r (kT p A r c u r) b else A r b) = A r b := fun b hb => by
      split
      · unfold kN kT
        rw [if_pos rfl]
        have : (A r b : Int) - ((0 : Nat) : Int) * A r b = (A r b : Int) := by
          show (A r b : Int) - 0 * A r b = _
          omega
        rw [this]
        exact md_small (hA r b hr hb)
      · rfl
    obtain ⟨h1, q1, q2, q3, q4⟩ := rf_el_q (rc := rc) hp hB hr hi tl (fun z => by unfold kT; rw [if_pos z]) us (Int32.ofNat c) (Int32.ofNat u) 12 0 h rfl E (rMt_congr H (fun a b ha hb => by rw [if_neg (fun w => by omega : ¬ (a = i ∧ b < 0))]))
    obtain ⟨h2, t1, t2, t3, t4⟩ := rf_el_i hp hA hr hc hu us m (i + 1) h1 (by omega) q2 (rMt_congr q3 (fun a b ha hb => by
      by_cases z : a = i
      · rw [if_pos z, if_pos (by omega), z]
        unfold kN
        try dsimp only
        rw [if_neg (by omega : ¬ i < i)]
        have := same b hb
        unfold kN at this
        rw [this]
      · rw [if_neg z]
        by_cases y : a < i
        · rw [if_pos y, if_pos (by omega)]
        · rw [if_neg y, if_neg (by omega)]))
    refine ⟨h2, fun d => ?_, t2, t3, q4.trans t4⟩
    have q1 := q1 d
    rw [show Int32.ofNat 0 = (0 : Int32) from rfl] at q1
    rw [je_135_56, if_neg (jk_n12 hi)]
    by_cases z : i = r
    · have : kT p A r c u i = 0 := by unfold kT; rw [if_pos z]
      rw [this] at q1
      rw [if_pos (by rw [z]), show (0 : Int32) = Int32.ofNat 0 from rfl]
      rw [show Int32.ofNat 0 = (0 : Int32) from rfl] at q1 ⊢
      rw [q1]
      exact t1 d
    · have g1 := rMt_get H hi hc
      rw [if_neg (by omega)] at g1
      have pz : ¬ Int32.ofNat p = 0 := by
        rw [show (0 : Int32) = Int32.ofNat 0 from rfl, jk_inj (by omega) (by decide)]; omega
      have l1 := hA i c hi hc
      have l3 := Nat.mul_le_mul (show A i c ≤ 12 by omega) (show u ≤ 12 by omega)
      have : kT p A r c u i = (A i c * u) % p := by unfold kT; rw [if_neg z]
      rw [this] at q1
      rw [if_neg (by rw [jk_inj (by omega) (by omega)]; exact z), E.1.g9, jk_bs, m_rows_q E.2.1 hi (by decide), jk_bs, jk_mos, g1, jk_bs, if_neg pz, ← Int32.ofNat_mul, rm_pos hp (by omega), q1]
      exact t1 d
end
