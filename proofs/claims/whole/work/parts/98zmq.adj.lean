/-! LINK: the minors beside the ways solve the table's system -/
section
variable {f : jF}
/-- a walk there is -/
theorem wy_exi (W : jf_W f) {p : Nat} (hp : p < 12) (sp : bt f.2.2 p = true) : ∃ o par sz, wy_J f p o par sz := by
  let h : jxH := (0, 0, fun x => if x = 0 then jxO 1 [.ref 1, .ref 2, .int f.2.2] else if x = 1 then jxI 0 12 f.1 else if x = 2 then jxI 0 12 f.2.1 else if x = 3 then jxO 10 [.ref 4, .ref 5, .ref 6, .int 0, .int 0] else jxI 0 12 (fun _ => 0))
  have G : fo_at h 0 f := ⟨rfl, ⟨f.1, rfl, fun _ _ => rfl⟩, f.2.1, rfl, fun _ _ => rfl⟩
  have K : wk_ok h 3 := ⟨⟨0, 0, rfl⟩, ⟨_, rfl⟩, ⟨_, rfl⟩, ⟨_, rfl⟩⟩
  obtain ⟨h1, o, par, dep, sz, r1, r2, J, h0, oq, pq, F⟩ := wk_from (rc := fun _ => (0, fun _ => 0)) K G W (by omega) hp sp
  exact ⟨o, par, sz, wy_J_of W.1 hp J h0 oq pq⟩
-- the way by holders, one step
theorem wy_p_or (par : Nat → Option Nat) : ∀ (m : Nat) (x : Option Nat) (S : Int32), wy_p par m x S = wy_p par m x 0 ||| S
  | 0, x, S => by
    show S = 0 ||| S
    rw [Int32.zero_or]
  | m + 1, none, S => by
    show S = 0 ||| S
    rw [Int32.zero_or]
  | m + 1, some x, S => by
    show wy_p par m (par x) (S ||| jk_bit x) = wy_p par m (par x) (0 ||| jk_bit x) ||| S
    rw [wy_p_or par m (par x) (S ||| jk_bit x), wy_p_or par m (par x) (0 ||| jk_bit x), Int32.zero_or, Int32.or_comm S, Int32.or_assoc]
theorem wy_p_fuel {p : Nat} {o : Nat → Nat} {par : Nat → Option Nat} {sz : Nat} (J : wy_J f p o par sz) : ∀ (m m' i : Nat) (S : Int32), i < sz → i < m → i < m' → wy_p par m (some (o i)) S = wy_p par m' (some (o i)) S
  | 0, _, i, S, _, h, _ => by omega
  | m + 1, 0, i, S, _, _, h => by omega
  | m + 1, m' + 1, i, S, hi, h1, h2 => by
    obtain ⟨h0, h12, oq, pq, j1, j2, j3, j4, j5⟩ := id J
    show wy_p par m (par (o i)) (S ||| jk_bit (o i)) = wy_p par m' (par (o i)) (S ||| jk_bit (o i))
    by_cases z : i = 0
    · subst z
      rw [oq, pq]
      cases m <;> cases m' <;> rfl
    · obtain ⟨j, ji, pj, -⟩ := j4 i (by omega) hi
      rw [pj]
      exact wy_p_fuel J m m' j _ (by omega) (by omega) (by omega)
/-- the way to the root, by the order -/
theorem wy_P {p : Nat} (B : jf_B f) (hp : p < 12) {o : Nat → Nat} {par : Nat → Option Nat} {sz : Nat} (J : wy_J f p o par sz) : (jq_way f p p = jk_bit p) ∧ (∀ i j, 0 < i → i < sz → j < i → par (o i) = some (o j) → jq_way f (o i) p = jq_way f (o j) p ||| jk_bit (o i)) ∧ ∀ i k, i < sz → bt (jq_way f (o i) p) (o k) = true → k < sz → k ≤ i := by
  obtain ⟨h0, h12, oq, pq, j1, j2, j3, j4, j5⟩ := id J
  have eP : ∀ i, i < sz → jq_way f (o i) p = wy_p par 12 (some (o i)) 0 := fun i hi => wy_eq (wy_walk B hp J (j1 i hi).2).1
  refine ⟨?_, fun i j i0 hi ji pj => ?_, fun i k hi hb hk => ?_⟩
  · have := eP 0 h0
    rw [oq] at this
    rw [this]
    show wy_p par 11 (par p) (0 ||| jk_bit p) = jk_bit p
    rw [pq, Int32.zero_or]; rfl
  · rw [eP i hi, eP j (by omega)]
    show wy_p par 11 (par (o i)) (0 ||| jk_bit (o i)) = _
    rw [pj, wy_p_or, Int32.zero_or, wy_p_fuel J 11 12 j 0 (by omega) (by omega) (by omega)]
  · rw [eP i hi] at hb
    obtain ⟨-, -, -, b4, -⟩ := wy_p_facts J 12 i 0 hi (by omega)
    rcases b4 (o k) hb with z | ⟨j, l, e, -⟩
    · rw [bt_0] at z; cases z
    · have := j3 k j hk (by omega) e
      omega
/-- minors with other weights -/
def Mw (w : Nat → Int) (f : jF) (S : Int32) : Int := mx_p w (ec f) (sl S)
theorem Mw_at (B : jf_B f) (w : Nat → Int) {S : Int32} {p : Nat} (hp : p < 12) (hb : bt S p = true) : Mw w f S = w p * Mw w f (S &&& (jk_bit p ^^^ (-1))) - js (fun q => if bt (S &&& (jk_bit p ^^^ (-1))) q = true then ec f p q * Mw w f ((S &&& (jk_bit p ^^^ (-1))) &&& (jk_bit q ^^^ (-1))) else 0) 12 := by
  unfold Mw
  rw [mx_p_at w (ec f) (ec_sym B) (sl_nodup S) (sl_mem.mpr ⟨hp, hb⟩), ← sl_erase S hp, mx_s_sl]
  congr 1
  refine js_congr (fun q hq => ?_)
  by_cases c : bt (S &&& (jk_bit p ^^^ (-1))) q = true
  · rw [if_pos c, if_pos c, sl_erase _ hq]
  · rw [if_neg c, if_neg c]
/-- beside the way -/
noncomputable def bW (w : Nat → Int) (f : jF) (p x : Nat) : Int := if bt (jt_T f p) x = true then (-1) ^ (bc (jq_way f x p) + 1) * Mw w f (f.2.2 &&& (jq_way f x p ^^^ (-1))) else 0
theorem bt_dif (V X : Int32) {q : Nat} (hq : q < 12) : bt (V &&& (X ^^^ (-1))) q = (bt V q && !bt X q) := by rw [bt_and, bt_not _ (by omega)]
theorem dif_dif (V X : Int32) {r : Nat} (hr : r < 12) : (V &&& (X ^^^ (-1))) &&& (jk_bit r ^^^ (-1)) = V &&& ((X ||| jk_bit r) ^^^ (-1)) := bt_ext fun k hk => by
  rw [bt_and, bt_and, bt_and, bt_not _ hk, bt_not _ hk, bt_not _ hk, bt_or]
  cases bt V k <;> cases bt X k <;> cases bt (jk_bit r) k <;> rfl
theorem ec_bit {a b : Nat} (ha : a < 12) (hb : b < 12) : ec f a b = if bt (f.2.1 a) b = true then 1 else 0 := by
  unfold ec
  rw [if_pos ⟨ha, hb⟩]
  unfold ee i01
  rfl
theorem adj_sys (W : jf_W f) (w : Nat → Int) {p : Nat} (hp : p < 12) (sp : bt f.2.2 p = true) {r : Nat} (hr : r ∈ sl f.2.2) : mx_s (fun q => wA w (ec f) r q * bW w f p q) (sl f.2.2) = if r = p then Mw w f f.2.2 else 0 := by
  have B := W.1
  obtain ⟨o, par, sz, J⟩ := wy_exi W hp sp
  obtain ⟨h0, h12, oq, pq, j1, j2, j3, j4, j5⟩ := id J
  obtain ⟨P0, P1, P2⟩ := wy_P B hp J
  obtain ⟨r12, vr⟩ := sl_mem.mp hr
  rw [mx_s_sl]
  have er : ec f r r = 0 := by rw [ec_bit r12 r12, B.irr r12]; rfl
  have bT : ∀ i, i < sz → bW w f p (o i) = (-1) ^ (bc (jq_way f (o i) p) + 1) * Mw w f (f.2.2 &&& (jq_way f (o i) p ^^^ (-1))) := fun i hi => by
    unfold bW
    rw [if_pos (j1 i hi).2]
  by_cases tr : bt (jt_T f p) r = true
  · obtain ⟨i, hi, rfl⟩ := j2 r tr
    -- a neighbour that comes later is held
    have child : ∀ q, q < 12 → bt (f.2.1 (o i)) q = true → ∃ k, k < sz ∧ o k = q ∧ k ≠ i ∧ (i < k → par q = some (o i) ∧ jq_way f q p = jq_way f (o i) p ||| jk_bit q) := fun q hq hb => by
      have tq : bt (jt_T f p) q = true := by rw [← jt_T_edge B hp r12 hq hb]; exact tr
      obtain ⟨k, hk, rfl⟩ := j2 q tq
      refine ⟨k, hk, rfl, fun z => ?_, fun ik => ?_⟩
      · rw [z, B.irr r12] at hb; cases hb
      · have pk := j5 k i ik hk hb
        exact ⟨pk, P1 k i (by omega) hk ik pk⟩
    by_cases i0 : i = 0
    · subst i0
      rw [oq] at r12 vr er tr child ⊢
      rw [if_pos rfl]
      have bp : bW w f p p = Mw w f (f.2.2 &&& (jk_bit p ^^^ (-1))) := by
        have := bT 0 h0
        rw [oq, P0] at this
        rw [this]
        have : bc (jk_bit p) = 1 := by
          have := bc_set_eq (x := 0) hp (bt_0 p)
          rw [Int32.zero_or] at this
          rw [this]; rfl
        rw [this]
        show ((-1) * (-1) : Int) * _ = _
        omega
      rw [Mw_at B w hp sp]
      rw [js_congr (h := fun q => (if q = p then w p * bW w f p p else 0) + (-1) * (if bt (f.2.2 &&& (jk_bit p ^^^ (-1))) q = true then ec f p q * Mw w f ((f.2.2 &&& (jk_bit p ^^^ (-1))) &&& (jk_bit q ^^^ (-1))) else 0)) (fun q hq => by
        rw [bt_clr _ hp hq]
        by_cases z : q = p
        · subst z
          rw [if_pos sp, if_pos rfl, decide_eq_false (fun y => y rfl), Bool.and_false, if_neg (by simp)]
          unfold wA
          rw [if_pos rfl]; omega
        · rw [if_neg z, decide_eq_true z, Bool.and_true]
          by_cases v : bt f.2.2 q = true
          · rw [if_pos v, if_pos v]
            unfold wA
            rw [if_neg (fun y => z y.symm), ec_bit hp hq]
            by_cases e : bt (f.2.1 p) q = true
            · rw [if_pos e]
              obtain ⟨k, hk, rfl, ne, c⟩ := child q hq e
              obtain ⟨-, wy⟩ := c (by omega)
              have bk := bT k hk
              rw [P0] at wy
              have b2 : bc (jk_bit p ||| jk_bit (o k)) = 2 := by
                have h1 := bc_set_eq (x := 0) hp (bt_0 p)
                have h2 := bc_set_eq (x := jk_bit p) hq (by rw [bt_bit (by omega) (by omega)]; exact decide_eq_false z)
                rw [Int32.zero_or] at h1
                rw [h2, h1]; rfl
              rw [wy, b2] at bk
              rw [bk, dif_dif _ _ hq]
              show 1 * (((-1 : Int) ^ 3) * _) = _
              rw [show ((-1 : Int) ^ 3) = -1 from rfl]
              omega
            · rw [if_neg e, Int.zero_mul, Int.zero_mul]; omega
          · rw [if_neg v, if_neg v]; omega)]
      rw [js_add, js_mul, js_delta (v := p) (fun _ => w p * bW w f p p), if_pos hp, bp]
      omega
    · obtain ⟨j, ji, pj, ej⟩ := j4 i (by omega) hi
      have m12 := (j1 j (by omega)).1
      have ne : o i ≠ p := fun z => by rw [← oq] at z; have := j3 i 0 hi h0 z; omega
      rw [if_neg ne]
      have wy := P1 i j (by omega) hi ji pj
      have nin : bt (jq_way f (o j) p) (o i) = false := by
        cases c : bt (jq_way f (o j) p) (o i)
        · rfl
        · have := P2 j i (by omega) c hi; omega
      have bcX := bc_set_eq r12 nin
      rw [← wy] at bcX
      have bi := bT i hi
      have bj := bT j (by omega)
      have hrec := Mw_at B w (S := f.2.2 &&& (jq_way f (o j) p ^^^ (-1))) r12 (by rw [bt_dif _ _ r12, vr, nin]; rfl)
      rw [dif_dif _ _ r12, ← wy] at hrec
      rw [bcX, Int.pow_succ] at bi
      have nij : o i ≠ o j := fun z => by have := j3 i j hi (by omega) z; omega
      have vm : bt f.2.2 (o j) = true := (jt_T_in B hp sp (j1 j (by omega)).2).2
      generalize hX : jq_way f (o i) p = X at *
      generalize hs : (-1 : Int) ^ (bc (jq_way f (o j) p) + 1) = s at *
      rw [js_congr (h := fun q => ((if q = o i then w (o i) * bW w f p (o i) else 0) + (if q = o j then bW w f p (o j) else 0)) + s * (if bt (f.2.2 &&& (X ^^^ (-1))) q = true then ec f (o i) q * Mw w f ((f.2.2 &&& (X ^^^ (-1))) &&& (jk_bit q ^^^ (-1))) else 0)) (fun q hq => by
        rw [bt_dif _ _ hq]
        have bX : bt X q = (bt (jq_way f (o j) p) q || decide (q = o i)) := by rw [wy, bt_or, bt_bit (by omega) (by omega)]
        by_cases z : q = o i
        · subst z
          rw [if_pos vr, if_pos rfl, if_neg nij, bX, decide_eq_true rfl, Bool.or_true]
          unfold wA
          rw [if_pos rfl]
          simp
        · rw [if_neg z]
          by_cases v : bt f.2.2 q = true
          · rw [if_pos v, v, Bool.true_and]
            unfold wA
            rw [if_neg (fun y => z y.symm)]
            by_cases y : q = o j
            · have bm : bt X (o j) = true := by
                rw [wy, bt_or]
                have : bt (jq_way f (o j) p) (o j) = true := by
                  have := wy_walk B hp J (j1 j (by omega)).2
                  rw [wy_eq this.1]; exact this.2
                rw [this]; rfl
              subst y
              rw [if_pos rfl, bm, ec_bit r12 hq, B.sym r12 hq, ej]
              simp
            · rw [if_neg y]
              by_cases e : bt (f.2.1 (o i)) q = true
              · obtain ⟨k, hk, rfl, nk, c⟩ := child q hq e
                have ik : i < k := by
                  rcases Nat.lt_or_gt_of_ne nk with a | a
                  · exfalso
                    have := j5 i k a hi (by rw [B.sym hq r12]; exact e)
                    rw [pj] at this
                    injection this with this
                    exact y this.symm
                  · exact a
                obtain ⟨-, wk⟩ := c ik
                have nk2 : bt X (o k) = false := by
                  cases c : bt X (o k)
                  · rfl
                  · rw [← hX] at c; have := P2 i k hi c hk; omega
                have bk := bT k hk
                have b2 := bc_set_eq hq nk2
                rw [wk, b2, bcX, Int.pow_succ, Int.pow_succ, hs] at bk
                rw [nk2, ec_bit r12 hq, e, bk, dif_dif _ _ hq]
                simp only [if_true, Bool.not_false, Int.one_mul]
                have : s * -1 * -1 = s := by omega
                rw [this]; omega
              · rw [ec_bit r12 hq, if_neg e, Int.zero_mul, Int.zero_mul]
                split <;> simp
          · have vf : bt f.2.2 q = false := by cases w : bt f.2.2 q <;> simp_all
            have y : q ≠ o j := fun y => v (by rw [y]; exact vm)
            rw [if_neg v, if_neg y, vf, Bool.false_and, if_neg (by simp)]
            simp)]
      rw [js_add, js_add, js_mul, js_delta (v := o i) (fun _ => w (o i) * bW w f p (o i)), if_pos r12, js_delta (v := o j) (fun _ => bW w f p (o j)), if_pos m12, bi, bj, hrec]
      generalize js _ 12 = t
      generalize Mw w f (f.2.2 &&& (X ^^^ (-1))) = y
      generalize w (o i) = a
      have e1 : a * (s * -1 * y) = -(s * (a * y)) := by
        rw [Int.mul_neg, Int.mul_one, Int.neg_mul, Int.mul_neg, Int.mul_left_comm]
      rw [e1, Int.mul_sub]
      omega
  · have nz : r ≠ p := fun z => tr (by rw [z]; exact jt_T_self f hp)
    rw [if_neg nz, js_congr (h := fun _ => 0) (fun q hq => by
      by_cases v : bt f.2.2 q = true
      · rw [if_pos v]
        unfold wA
        by_cases z : r = q
        · subst z
          unfold bW
          rw [if_neg tr, Int.mul_zero]
        · rw [if_neg z, ec_bit r12 hq]
          by_cases e : bt (f.2.1 r) q = true
          · have : ¬ bt (jt_T f p) q = true := by rw [← jt_T_edge B hp r12 hq e]; exact tr
            unfold bW
            rw [if_neg this, Int.mul_zero]
          · rw [if_neg e, Int.zero_mul]
      · rw [if_neg v]), js_0]
end
