/-! KERNEL: column by column; the number of solutions; both sides -/
/-- the columns from the last on -/
def cd : Nat → List Nat
  | 0 => []
  | m + 1 => cd m ++ [11 - m]
def SA (A : Nat → Nat → Nat) (i : Nat) (x : Nat → Int) : Int := js (fun j => (A i j : Int) * x j) 12
/-- the rows that are not used yet -/
def RU (p : Nat) (us : Int32) (A : Nat → Nat → Nat) (x : Nat → Int) : Prop := ∀ i, i < 12 → bt us i = false → (p : Int) ∣ SA A i x
theorem js_sub (g h : Nat → Int) (n : Nat) : js (fun k => g k - h k) n = js g n - js h n := by
  have := js_add (fun k => g k - h k) h n
  rw [js_congr (h := g) (fun k _ => Int.sub_add_cancel _ _)] at this
  omega
theorem js_dvd {p : Nat} {g h : Nat → Int} : ∀ {n : Nat}, (∀ k, k < n → (p : Int) ∣ g k - h k) → (p : Int) ∣ js g n - js h n
  | 0, _ => ⟨0, by show (0 : Int) - 0 = p * 0; omega⟩
  | n + 1, hk => by
    have h1 := js_dvd (n := n) (fun k q => hk k (by omega))
    have h2 := Int.dvd_add h1 (hk n (by omega))
    show (p : Int) ∣ (js g n + g n) - (js h n + h n)
    rw [show (js g n + g n) - (js h n + h n) = (js g n - js h n) + (g n - h n) by omega]
    exact h2
theorem SA_xu (A : Nat → Nat → Nat) (i : Nat) {c : Nat} (hc : c < 12) (x : Nat → Int) (a : Int) : SA A i (xu x c a) = SA A i x + A i c * (a - x c) := by
  unfold SA
  refine js_bumpc hc ?_ (fun k _ hne => by (try dsimp only); rw [xu_ne _ _ hne])
  try dsimp only
  rw [xu_at, Int.mul_sub]; omega
def kf (A : Nat → Nat → Nat) (us : Int32) (c : Nat) : Nat → Nat → Option Nat
  | 0, _ => none
  | m + 1, k => if bt us k = false ∧ A k c ≠ 0 then some k else kf A us c m (k + 1)
theorem kf_some {A : Nat → Nat → Nat} {us : Int32} {c r : Nat} : ∀ {m k : Nat}, kf A us c m k = some r → k ≤ r ∧ r < k + m ∧ bt us r = false ∧ A r c ≠ 0
  | 0, k, h => by cases h
  | m + 1, k, h => by
    by_cases z : bt us k = false ∧ A k c ≠ 0
    · rw [show kf A us c (m + 1) k = some k from if_pos z] at h
      injection h with h
      subst h
      exact ⟨Nat.le_refl k, by omega, z⟩
    · rw [show kf A us c (m + 1) k = kf A us c m (k + 1) from if_neg z] at h
      obtain ⟨a, b, e⟩ := kf_some h
      exact ⟨by omega, by omega, e⟩
theorem kf_none {A : Nat → Nat → Nat} {us : Int32} {c : Nat} : ∀ {m k : Nat}, kf A us c m k = none → ∀ i, k ≤ i → i < k + m → bt us i = false → A i c = 0
  | 0, k, _, i, h1, h2, _ => by omega
  | m + 1, k, h, i, h1, h2, h3 => by
    by_cases z : bt us k = false ∧ A k c ≠ 0
    · rw [show kf A us c (m + 1) k = some k from if_pos z] at h; cases h
    · rw [show kf A us c (m + 1) k = kf A us c m (k + 1) from if_neg z] at h
      by_cases y : i = k
      · subst y
        apply Classical.byContradiction; intro w; exact z ⟨h3, w⟩
      · exact kf_none h i (by omega) (by omega) h3
theorem kT_dvd {p : Nat} {A : Nat → Nat → Nat} {r c u i : Nat} (hu : (u * A r c) % p = 1) (ne : i ≠ r) : (p : Int) ∣ (A i c : Int) - kT p A r c u i * A r c := by
  have h1 := Nat.div_add_mod (u * A r c) p
  rw [hu] at h1
  have h2 := Nat.div_add_mod (A i c * u) p
  have et : kT p A r c u i = (A i c * u) % p := by unfold kT; rw [if_neg ne]
  rw [← et] at h2
  generalize kT p A r c u i = t at *
  generalize u * A r c / p = a at *
  generalize A i c * u / p = b at *
  refine ⟨(b : Int) * A r c - A i c * a, ?_⟩
  have e1 : (t : Int) = A i c * u - p * b := by
    rw [← Int.natCast_mul, ← Int.natCast_mul]; omega
  have e2 : (u : Int) * A r c = p * a + 1 := by
    rw [← Int.natCast_mul, ← Int.natCast_mul]; omega
  rw [e1, Int.sub_mul, Int.mul_sub, Int.mul_assoc (A i c : Int), e2, Int.mul_add, Int.mul_one]
  have a1 : (p : Int) * b * A r c = p * (b * A r c) := Int.mul_assoc _ _ _
  have a2 : (p : Int) * ((A i c : Int) * a) = A i c * (p * a) := Int.mul_left_comm _ _ _
  omega
theorem md_0 {p : Nat} {z : Int} (h : (p : Int) ∣ z) : md p z = 0 := by
  unfold md
  rw [Int.emod_eq_zero_of_dvd h]; rfl
section
variable {p : Nat}
/-- a column without a row for it is free -/
theorem RU_free {us : Int32} {A : Nat → Nat → Nat} {c : Nat} (hc : c < 12) (h : ∀ i, i < 12 → bt us i = false → A i c = 0) (x : Nat → Int) : js (fun a => ind (RU p us A (xu x c (a : Int)))) p = (p : Int) * ind (RU p us A x) := by
  refine js_all (fun a _ => ?_)
  have e : ∀ i, i < 12 → bt us i = false → SA A i (xu x c (a : Int)) = SA A i x := fun i hi hu => by
    rw [SA_xu A i hc, h i hi hu]
    show _ + 0 * _ = _
    omega
  unfold RU
  constructor
  · intro q i hi hu; rw [← e i hi hu]; exact q i hi hu
  · intro q i hi hu; rw [e i hi hu]; exact q i hi hu
/-- a column with a row: one number for each choice of the others -/
theorem RU_piv (hp : pr6 p) {us : Int32} {A : Nat → Nat → Nat} {c r u : Nat} (hc : c < 12) (hr : r < 12) (hA : ∀ a b, a < 12 → b < 12 → A a b < p) (hru : bt us r = false) (h0 : A r c ≠ 0) (hu : (u * A r c) % p = 1) (x : Nat → Int) : js (fun a => ind (RU p us A (xu x c (a : Int)))) p = ind (RU p (us ||| jk_bit r) (fun a b => kN p A r a (kT p A r c u a) b) x) := by
  have p2 := pr6_pos hp
  have hu' : ∃ k : Int, (u : Int) * A r c = p * k + 1 := by
    have := Nat.div_add_mod (u * A r c) p
    rw [hu] at this
    refine ⟨((u * A r c / p : Nat) : Int), ?_⟩
    rw [← Int.natCast_mul, ← Int.natCast_mul]
    omega
  obtain ⟨k0, hk0⟩ := hu'
  have ut : un p (A r c : Int) := ⟨u, ⟨k0, by rw [Int.mul_comm]; omega⟩⟩
  refine js_lin (b := SA A r x - A r c * x c) (by omega) ut (fun a _ => ?_)
  have e0 : SA A r (xu x c (a : Int)) = A r c * (a : Int) + (SA A r x - A r c * x c) := by rw [SA_xu A r hc, Int.mul_sub]; omega
  have bit : ∀ i, i < 12 → (bt (us ||| jk_bit r) i = false ↔ bt us i = false ∧ i ≠ r) := fun i hi => by
    rw [bt_or, bt_bit (by omega) (by omega)]
    cases bt us i <;> simp
  -- the other rows, given the chosen one
  have other : (p : Int) ∣ A r c * (a : Int) + (SA A r x - A r c * x c) → ∀ i, i < 12 → i ≠ r → ((p : Int) ∣ SA A i (xu x c (a : Int)) ↔ (p : Int) ∣ SA (fun a b => kN p A r a (kT p A r c u a) b) i x) := by
    rintro ⟨kd, hd⟩ i hi ne
    apply dv_congr
    generalize ht : kT p A r c u i = t
    -- the new row
    have m1 : (p : Int) ∣ SA (fun a b => kN p A r a (kT p A r c u a) b) i x - (SA A i x - t * SA A r x) := by
      have e1 : SA A i x - t * SA A r x = js (fun j => (A i j : Int) * x j - t * ((A r j : Int) * x j)) 12 := by
        unfold SA
        rw [js_sub, js_mul]
      rw [e1]
      unfold SA
      refine js_dvd (fun j _ => ?_)
      try dsimp only
      rw [ht]
      unfold kN
      obtain ⟨k, hk⟩ := md_dvd (show 0 < p by omega) ((A i j : Int) - t * A r j)
      refine ⟨k * x j, ?_⟩
      have e2 : (md p ((A i j : Int) - t * A r j) : Int) = p * k + (A i j - t * A r j) := by omega
      rw [e2, Int.add_mul, Int.sub_mul, Int.mul_assoc, Int.mul_assoc]
      omega
    have m2 : ∃ k : Int, (A i c : Int) = t * A r c + p * k := by
      obtain ⟨k, hk⟩ := kT_dvd (A := A) hu ne
      rw [ht] at hk
      exact ⟨k, by omega⟩
    obtain ⟨k1, h1⟩ := m1
    obtain ⟨k2, h2⟩ := m2
    rw [SA_xu A i hc, h2]
    generalize SA A i x = si at *
    generalize SA A r x = sr at *
    generalize SA (fun a b => kN p A r a (kT p A r c u a) b) i x = sn at *
    generalize (A r c : Int) = w at *
    generalize x c = xc at *
    refine ⟨t * kd + k2 * (a - xc) - k1, ?_⟩
    have e1 : sn = p * k1 + (si - t * sr) := by omega
    have e2 : sr = p * kd - w * a + w * xc := by omega
    have e3 : (t : Int) * sr = p * (t * kd) - t * w * a + t * w * xc := by
      rw [e2, Int.mul_add, Int.mul_sub]
      have b1 : (t : Int) * (p * kd) = p * (t * kd) := Int.mul_left_comm _ _ _
      have b2 : (t : Int) * (w * a) = t * w * a := (Int.mul_assoc _ _ _).symm
      have b3 : (t : Int) * (w * xc) = t * w * xc := (Int.mul_assoc _ _ _).symm
      omega
    have b4 : (p : Int) * k2 * (a - xc) = p * (k2 * (a - xc)) := Int.mul_assoc _ _ _
    have b5 : (t : Int) * w * (a - xc) = t * w * a - t * w * xc := Int.mul_sub _ _ _
    have b6 : (p : Int) * (t * kd + k2 * (a - xc) - k1) = p * (t * kd) + p * (k2 * (a - xc)) - p * k1 := by rw [Int.mul_sub, Int.mul_add]
    rw [e1, e3, Int.add_mul, b4, b5, b6]
    omega
  constructor
  · intro q
    have qr := q r hr hru
    rw [e0] at qr
    refine ⟨qr, fun i hi hb => ?_⟩
    obtain ⟨b1, b2⟩ := (bit i hi).mp hb
    exact (other qr i hi b2).mp (q i hi b1)
  · rintro ⟨qr, q⟩ i hi hb
    by_cases z : i = r
    · rw [z, e0]; exact qr
    · exact (other qr i hi z).mpr (q i hi ((bit i hi).mpr ⟨hb, z⟩))
end
section
variable {rc : Nat → Nat × (Nat → Int32)} {h h' : jxH} {f : jF} {σ : jSt} {p : Nat}
theorem rf_skip (r : Nat) (hr : r < 12) (us c : Int32) (d : Nat) : ∀ (m k : Nat), k + m = 12 → jb_135 rc d 14 [(0, .ref 336), (1, .int (Int32.ofNat p)), (2, .int us), (3, .int c), (4, .int (Int32.ofNat r)), (5, .int (Int32.ofNat k))] [] h = jb_135 rc d 14 [(0, .ref 336), (1, .int (Int32.ofNat p)), (2, .int us), (3, .int c), (4, .int (Int32.ofNat r)), (5, .int (Int32.ofNat 12))] [] h
  | 0, k, e => by
    obtain rfl : k = 12 := by omega
    rfl
  | m + 1, k, e => by
    rw [je_135_14, if_neg (jk_n12 (by omega)), if_pos (jk_ge (by omega)), jk_succ]
    exact rf_skip r hr us c d m (k + 1) (by omega)
theorem rf_find {A : Nat → Nat → Nat} (hA : ∀ a b, a < 12 → b < 12 → A a b < 14) (E : eO h f) (H : rMt h A) {c : Nat} (hc : c < 12) (us : Int32) (d : Nat) : ∀ (m k : Nat), k + m = 12 → jb_135 rc (d + 1) 14 [(0, .ref 336), (1, .int (Int32.ofNat p)), (2, .int us), (3, .int (Int32.ofNat c)), (4, .int (-1)), (5, .int (Int32.ofNat k))] [] h = jb_135 rc (d + 1) 14 [(0, .ref 336), (1, .int (Int32.ofNat p)), (2, .int us), (3, .int (Int32.ofNat c)), (4, .int (jk_on (kf A us c m k))), (5, .int (Int32.ofNat 12))] [] h
  | 0, k, e => by
    obtain rfl : k = 12 := by omega
    rfl
  | m + 1, k, e => by
    have hk : k < 12 := by omega
    have ih := rf_find hA E H hc us d m (k + 1) (by omega)
    rw [je_135_14, if_neg (jk_n12 hk), if_neg (by decide), rf_has _ _ (by omega), jk_cI, jk_if0]
    by_cases b : bt us k = true
    · rw [if_pos b, jk_succ, show kf A us c (m + 1) k = kf A us c m (k + 1) from if_neg (fun w => by rw [b] at w; cases w.1)]
      exact ih
    · have b' : bt us k = false := by cases z : bt us k <;> simp_all
      rw [if_neg b, E.1.g9, jk_bs, m_rows_q E.2.1 hk (by decide), jk_bs, jk_mos, rMt_get H hk hc, jk_bs]
      by_cases z : A k c = 0
      · rw [if_pos (by rw [z]; rfl), jk_succ, show kf A us c (m + 1) k = kf A us c m (k + 1) from if_neg (fun w => w.2 z)]
        exact ih
      · have l := hA k c hk hc
        rw [if_neg (by rw [show (0 : Int32) = Int32.ofNat 0 from rfl, jk_inj (by omega) (by decide)]; exact z), jk_succ, show kf A us c (m + 1) k = some k from if_pos ⟨b', z⟩]
        exact rf_skip k hk us (Int32.ofNat c) (d + 1) m (k + 1) (by omega)
theorem rf_el (hp : pr6 p) (B : jf_B f) : ∀ (m : Nat) (h : jxH) (A : Nat → Nat → Nat) (us : Int32), m ≤ 12 → eO h f → rMt h A → (∀ a b, a < 12 → b < 12 → A a b < p) → (∀ i, i < 12 → bt us i = false → ∀ j, j < 12 - m → A i j = 0) → (∀ i j, i < 12 → j < 12 → bt f.2.2 i = false → A i j = 0) → (∀ i, i < 12 → bt us i = true → bt f.2.2 i = true) → ∃ h' us' k A', (∀ d, jb_135 rc (d + 2) 7 [(0, .ref 336), (1, .int (Int32.ofNat p)), (2, .int us), (3, .int (Int32.ofNat (12 - m)))] [] h = some (some (.int (Int32.ofNat (bc f.2.2) - Int32.ofNat (bc us'))), h')) ∧ rMt h' A' ∧ bc us' + k = bc us + m ∧ (∀ x, ct p (cd m) (fun x => ind (RU p us A x)) x = (p : Int) ^ k) ∧ (∀ i, i < 12 → bt us' i = true → bt f.2.2 i = true) ∧ Fr jRw h h'
  | 0, h, A, us, hm, E, H, hA, Z, Y, V => by
    refine ⟨h, us, 0, A, fun d => ?_, H, rfl, fun x => ?_, V, Fr.rfl⟩
    · rw [je_135_7, if_pos (by decide), E.1.g1, jk_bs, ro_0 E.2.2, jk_bs, rf_many, jk_cI, rf_many, jk_cI]
    · show ind (RU p us A x) = (p : Int) ^ 0
      rw [Int.pow_zero]
      refine ind_t (fun i hi hu => ?_)
      unfold SA
      rw [js_congr (h := fun _ => 0) (fun j hj => by
        try dsimp only
        rw [Z i hi hu j (by omega)]
        exact Int.zero_mul _), js_0]
      exact ⟨0, by omega⟩
  | m + 1, h, A, us, hm, E, H, hA, Z, Y, V => by
    have p2 := pr6_pos hp
    have hc : 12 - (m + 1) < 12 := by omega
    have ec : 12 - (m + 1) + 1 = 12 - m := by omega
    have el : 11 - m = 12 - (m + 1) := by omega
    have find := fun d => rf_find (rc := rc) (p := p) (fun a b ha hb => Nat.lt_of_lt_of_le (hA a b ha hb) (by omega : p ≤ 14)) E H hc us d 12 0 rfl
    have st : ∀ d, jb_135 rc (d + 2) 7 [(0, .ref 336), (1, .int (Int32.ofNat p)), (2, .int us), (3, .int (Int32.ofNat (12 - (m + 1))))] [] h = jb_135 rc (d + 2) 14 [(0, .ref 336), (1, .int (Int32.ofNat p)), (2, .int us), (3, .int (Int32.ofNat (12 - (m + 1)))), (4, .int (jk_on (kf A us (12 - (m + 1)) 12 0))), (5, .int (Int32.ofNat 12))] [] h := fun d => by
      rw [je_135_7, if_neg (jk_n12 hc)]
      exact find (d + 1)
    cases hk : kf A us (12 - (m + 1)) 12 0 with
    | none =>
      have z := kf_none hk
      obtain ⟨h', us', k, A', r1, r2, r3, r4, r6, r5⟩ := rf_el hp B m h A us (by omega) E H hA (fun i hi hu j hj => by
        by_cases y : j = 12 - (m + 1)
        · rw [y]; exact z i (by omega) (by omega) hu
        · exact Z i hi hu j (by omega)) Y V
      refine ⟨h', us', k + 1, A', fun d => ?_, r2, by omega, fun x => ?_, r6, r5⟩
      · rw [st d, hk, je_135_14, if_pos (by decide), if_neg (by decide), jk_succ, ec]
        exact r1 d
      · show ct p (cd m ++ [11 - m]) _ x = _
        rw [ct_snoc, el, ct_congr (H := fun x => (p : Int) * ind (RU p us A x)) (fun x => RU_free hc (fun i hi hu => z i (by omega) (by omega) hu) x), ct_mul, r4, Int.pow_succ, Int.mul_comm]
    | some r =>
      obtain ⟨-, hr, hru, h0⟩ := kf_some hk
      have hr : r < 12 := by omega
      have lr := hA r (12 - (m + 1)) hr hc
      obtain ⟨u0, v1, v2, v3⟩ := un_res hp lr (by omega)
      obtain ⟨u, u1, u2, u3⟩ := rf_inv_l (rc := rc) (h := h) hp lr v2 v3 (u0 - 1) 1 (by omega) (Nat.le_refl 1)
      generalize hc0 : 12 - (m + 1) = c at *
      have bs : ∀ i, i < 12 → (bt (us ||| jk_bit r) i = false ↔ bt us i = false ∧ i ≠ r) := fun i hi => by
        rw [bt_or, bt_bit (by omega) (by omega)]
        cases bt us i <;> simp
      obtain ⟨h1, q1, q2, q3, q4⟩ := rf_el_i (rc := rc) hp hA hr hc u1 (us ||| jk_bit r) 12 0 h rfl E (rMt_congr H (fun a b _ _ => by rw [if_neg (Nat.not_lt_zero a)]))
      obtain ⟨h2, us', k, A', t1, t2, t3, t4, t6, t5⟩ := rf_el hp B m h1 (fun a b => kN p A r a (kT p A r c u a) b) (us ||| jk_bit r) (by omega) q2 q3 (fun a b _ _ => md_lt (by omega) _) (fun i hi hb j hj => by
        obtain ⟨b1, b2⟩ := (bs i hi).mp hb
        show md p ((A i j : Int) - kT p A r c u i * A r j) = 0
        by_cases y : j = c
        · rw [y]; exact md_0 (kT_dvd u2 b2)
        · rw [Z i hi b1 j (by omega), Z r hr hru j (by omega)]
          refine md_0 ⟨0, ?_⟩
          show (0 : Int) - _ * 0 = p * 0
          omega) (fun i j hi hj hv => by
        show md p ((A i j : Int) - kT p A r c u i * A r j) = 0
        have ne : ¬ i = r := fun z => by
          rw [z] at hv
          exact h0 (Y r c hr hc hv)
        have t0 : kT p A r c u i = 0 := by
          unfold kT
          rw [if_neg ne, Y i c hi hc hv, Nat.zero_mul, Nat.zero_mod]
        rw [Y i j hi hj hv, t0]
        refine md_0 ⟨0, ?_⟩
        show (0 : Int) - 0 * _ = p * 0
        omega) (fun i hi hb => by
        rw [bt_or, bt_bit (by omega) (by omega)] at hb
        by_cases z : i = r
        · rw [z]
          cases w : bt f.2.2 r
          · exact absurd (Y r c hr hc w) h0
          · rfl
        · rw [decide_eq_false z, Bool.or_false] at hb
          exact V i hi hb)
      have bc1 := bc_set_eq hr hru
      refine ⟨h2, us', k, A', fun d => ?_, t2, by omega, fun x => ?_, t6, q4.trans t5⟩
      · have q1 := q1 d
        rw [show Int32.ofNat 0 = (0 : Int32) from rfl] at q1
        have iv : jx_C rc (d + 2) 132 [.int (Int32.ofNat (A r c)), .int (Int32.ofNat p)] h = some (some (.int (Int32.ofNat u)), h) := by rw [je_132]; exact u3 (d + 1)
        rw [st d, hk, show jk_on (some r) = Int32.ofNat r from rfl, je_135_14, if_pos (by decide), if_pos (jk_ge (by omega)), E.1.g9, jk_bs, m_rows_q E.2.1 hr (by decide), jk_bs, jk_mos, rMt_get H hr hc, jk_bs, iv, jk_cI]
        refine Eq.trans q1 ?_
        rw [ec]
        exact t1 d
      · show ct p (cd m ++ [11 - m]) _ x = _
        rw [ct_snoc, el, ct_congr (H := fun x => ind (RU p (us ||| jk_bit r) (fun a b => kN p A r a (kT p A r c u a) b) x)) (fun x => RU_piv hp hc hr hA hru h0 u2 x)]
        exact t4 x
end
