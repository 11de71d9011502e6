/-! TEXTS: the print and the size are said by the text -/
def cb (w d s : Int32) : Int32 := ((((w * 31 + d) * 1009 + s) + 77777) * (((w * 31 + d) * 1009 + s) + 77777)) * (((w * 31 + d) * 1009 + s) + 77777)
def jF_ns (f : jF) (p : Nat) : Int32 := jk_sum (fun q => if bt (f.2.1 p) q = true then f.1 q else 0) 12
def jF_own (f : jF) (p : Nat) : Int32 := cb (f.1 p) (Int32.ofNat (bc (f.2.1 p))) (jF_ns f p)
def jF_print (f : jF) : Int32 := jk_sum (fun p => if bt f.2.2 p = true then jF_own f p else 0) 12
theorem jk_sum_js (g : Nat → Int32) : ∀ n, jk_sum g n = Int32.ofInt (js (fun k => (g k).toInt) n)
  | 0 => rfl
  | n + 1 => by
    show jk_sum g n + g n = Int32.ofInt (js (fun k => (g k).toInt) n + (g n).toInt)
    rw [jk_sum_js g n, Int32.ofInt_add, Int32.ofInt_toInt]
/-- what a vertex gives -/
def cv (c : Int32 → Int32 → Int32 → Int) (f : jF) (v : Nat) : Int := c (f.1 v) (Int32.ofNat (bc (f.2.1 v))) (jF_ns f v)
/-- what hangs gives -/
def cP (c : Int32 → Int32 → Int32 → Int) (f : jF) (par : Nat → Option Nat) : Nat → Nat → Int
  | 0, _ => 0
  | m + 1, v => cv c f v + js (fun k => if bt (tx_d f par v) k = true then cP c f par m k else 0) 12
theorem cP_succ (c : Int32 → Int32 → Int32 → Int) (f : jF) (par : Nat → Option Nat) (m v : Nat) : cP c f par (m + 1) v = cv c f v + js (fun k => if bt (tx_d f par v) k = true then cP c f par m k else 0) 12 := rfl
section
variable {c : Int32 → Int32 → Int32 → Int} {f : jF} {q : Nat} {o : Nat → Nat} {par : Nat → Option Nat} {sz : Nat}
theorem cP_fuel (B : jf_B f) (J : wy_J f q o par sz) : ∀ (m m' i : Nat), i < sz → sz - i ≤ m → sz - i ≤ m' → cP c f par m (o i) = cP c f par m' (o i)
  | 0, m', i, hi, h1, h2 => by omega
  | m + 1, 0, i, hi, h1, h2 => by omega
  | m + 1, m' + 1, i, hi, h1, h2 => by
    rw [cP_succ, cP_succ]
    refine congrArg (fun x => cv c f (o i) + x) (js_congr fun k hk => ?_)
    by_cases z : bt (tx_d f par (o i)) k = true
    · rw [if_pos z, if_pos z]
      obtain ⟨j, l, hj, rfl, e⟩ := tx_low B J hi z
      exact cP_fuel B J m m' j hj (by omega) (by omega)
    · rw [if_neg z, if_neg z]
theorem cP_eq (B : jf_B f) (J : wy_J f q o par sz) {i : Nat} (hi : i < sz) : cP c f par 12 (o i) = cv c f (o i) + js (fun k => if bt (tx_d f par (o i)) k = true then cP c f par 12 k else 0) 12 := by
  have h12 := J.2.1
  refine (cP_succ c f par 11 (o i)).trans ?_
  refine congrArg (fun x => cv c f (o i) + x) (js_congr fun k hk => ?_)
  by_cases z : bt (tx_d f par (o i)) k = true
  · rw [if_pos z, if_pos z]
    obtain ⟨j, l, hj, rfl, e⟩ := tx_low B J hi z
    exact cP_fuel B J 11 12 j hj (by omega) (by omega)
  · rw [if_neg z, if_neg z]
theorem tx_near (B : jf_B f) (J : wy_J f q o par sz) {i : Nat} (hi : i < sz) (g : Nat → Int) : js (fun k => if bt (f.2.1 (o i)) k = true then g k else 0) 12 = (match par (o i) with | none => 0 | some y => g y) + js (fun k => if bt (tx_d f par (o i)) k = true then g k else 0) 12 := by
  cases e : par (o i) with
  | none =>
    have de : tx_d f par (o i) = f.2.1 (o i) := by unfold tx_d tx_u; rw [e]; exact and_all _
    rw [de]; dsimp only; omega
  | some y =>
    obtain ⟨y12, ey⟩ : y < 12 ∧ bt (f.2.1 (o i)) y = true := by
      rcases Nat.eq_zero_or_pos i with z | z
      · rw [z, J.2.2.1, J.2.2.2.1] at e; cases e
      · obtain ⟨j, l, p1, p2⟩ := J.2.2.2.2.2.2.2.1 i z hi
        rw [e] at p1; injection p1 with p1
        have oj := (J.2.2.2.2.1 j (by omega)).1
        rw [p1]
        exact ⟨oj, by rw [B.sym (J.2.2.2.2.1 i hi).1 oj]; exact p2⟩
    have de : tx_d f par (o i) = f.2.1 (o i) &&& (jk_bit y ^^^ (-1)) := by unfold tx_d tx_u; rw [e]
    rw [de]
    dsimp only
    rw [js_congr (g := fun k => if bt (f.2.1 (o i)) k = true then g k else 0) (h := fun k => (if k = y then g k else 0) + (if bt (f.2.1 (o i) &&& (jk_bit y ^^^ (-1))) k = true then g k else 0)) (fun k hk => ?_), js_add, js_delta g, if_pos y12]
    rw [clr_bt y12 (by omega)]
    by_cases z : k = y
    · subst z; rw [ey]; simp
    · rw [if_neg z]; simp [z]
theorem js_one (S : Int32) : js (fun k => if bt S k = true then 1 else 0) 12 = bc S := by
  rw [← js_bc]; exact js_congr fun k _ => by cases bt S k <;> rfl
theorem cv_near (B : jf_B f) (J : wy_J f q o par sz) {i : Nat} (hi : i < sz) (d s : Int) (hd : d = (match par (o i) with | none => 0 | some _ => 1)) (hs : s = (match par (o i) with | none => 0 | some y => (f.1 y).toInt)) : c (f.1 (o i)) (Int32.ofInt (d + bc (tx_d f par (o i)))) (Int32.ofInt (s + js (fun k => if bt (tx_d f par (o i)) k = true then (f.1 k).toInt else 0) 12)) = cv c f (o i) := by
  have n2 := tx_near B J hi (fun _ => 1)
  have s2 := tx_near B J hi (fun k => (f.1 k).toInt)
  rw [js_one, js_one] at n2
  have a1 : Int32.ofInt (d + bc (tx_d f par (o i))) = Int32.ofNat (bc (f.2.1 (o i))) := by
    rw [hd, ← n2]; rfl
  have a2 : Int32.ofInt (s + js (fun k => if bt (tx_d f par (o i)) k = true then (f.1 k).toInt else 0) 12) = jF_ns f (o i) := by
    rw [hs, ← s2]
    unfold jF_ns
    rw [jk_sum_js]
    congr 1
    exact js_congr fun k _ => by split <;> rfl
  rw [a1, a2]; rfl
/-- the text of what hangs is read -/
theorem dec_hang (B : jf_B f) (J : wy_J f q o par sz) : ∀ (m i : Nat), 0 < i → i < sz → sz - i ≤ m → ∀ p, par (o i) = some p → ∀ y0 y1 n s st R acc, fr_w (y0, y1, n, s) = f.1 p → dec c (TX f (o i) (tx_u par (o i)) ++ R) ((y0, y1, n, s) :: st) acc = dec c R ((y0, y1, n + 1, s + (f.1 (o i)).toInt) :: st) (acc + cP c f par 12 (o i))
  | 0, i, i0, hi, hm, p, hp, y0, y1, n, s, st, R, acc, hw => by omega
  | m + 1, i, i0, hi, hm, p, hp, y0, y1, n, s, st, R, acc, hw => by
    obtain ⟨s1, v1, w1, w2, w3⟩ := dec_w (c := c) (B.wt (J.2.2.2.2.1 i hi).1)
    rw [TX_eq B J hi]
    have e : 40 :: (tx_w (f.1 (o i)) ++ (tx_c (fun k => TX f k (tx_u par k)) 12 (tx_d f par (o i)) ++ [41])) ++ R = 40 :: (tx_w (f.1 (o i)) ++ (tx_c (fun k => TX f k (tx_u par k)) 12 (tx_d f par (o i)) ++ (41 :: R))) := by simp
    rw [e, dec_40, w3, dec_c (P := cP c f par 12) (w := fun k => (f.1 k).toInt) (bc_le _) (fun k hk n' s' R' acc' => by
      obtain ⟨j, l, hj, rfl, pe⟩ := tx_low B J hi hk
      exact dec_hang B J m j (by omega) hj (by omega) (o i) pe s1 v1 n' s' _ R' acc' (w2 _ _)), dec_41']
    dsimp only
    rw [w2, hw, Int.zero_add, Int.zero_add, cv_near (c := c) B J hi 1 (f.1 p).toInt (by rw [hp]) (by rw [hp]), cP_eq B J hi]
    congr 1
    omega
theorem dec_root (B : jf_B f) (J : wy_J f q o par sz) (R : List Nat) (acc : Int) : dec c (TX f q 0 ++ R) [] acc = dec c R [] (acc + js (fun v => if bt (jt_T f q) v = true then cv c f v else 0) 12) := by
  have hi := J.1
  have pe : par (o 0) = none := by rw [J.2.2.1]; exact J.2.2.2.1
  have u0 : tx_u par (o 0) = 0 := by unfold tx_u; rw [pe]
  obtain ⟨s1, v1, w1, w2, w3⟩ := dec_w (c := c) (B.wt (J.2.2.2.2.1 0 hi).1)
  have T := TX_eq B J hi
  rw [u0, J.2.2.1] at T
  rw [J.2.2.1] at w1 w2 w3
  rw [T]
  have e : 40 :: (tx_w (f.1 q) ++ (tx_c (fun k => TX f k (tx_u par k)) 12 (tx_d f par q) ++ [41])) ++ R = 40 :: (tx_w (f.1 q) ++ (tx_c (fun k => TX f k (tx_u par k)) 12 (tx_d f par q) ++ (41 :: R))) := by simp
  rw [e, dec_40, w3, dec_c (P := cP c f par 12) (w := fun k => (f.1 k).toInt) (bc_le _) (fun k hk n' s' R' acc' => by
    rw [← J.2.2.1] at hk
    obtain ⟨j, l, hj, rfl, pe⟩ := tx_low B J hi hk
    exact dec_hang B J 12 j (by omega) hj (by have := J.2.1; omega) (o 0) pe s1 v1 n' s' _ R' acc' (by rw [J.2.2.1]; exact w2 _ _)), dec_41]
  dsimp only
  have cn := cv_near (c := c) B J hi 0 0 (by rw [pe]) (by rw [pe])
  have ce := cP_eq (c := c) B J hi
  rw [J.2.2.1] at cn ce
  rw [w2, cn, ← tx_pot B J (cP c f par 12) (cv c f) (fun i hi => cP_eq B J hi), ce]
  congr 1
  omega
end
section
variable {c : Int32 → Int32 → Int32 → Int} {f g : jF}
/-- a tree's best end -/
def TBj (f : jF) (l : Nat) : Nat := (TBo f (jt_T f l) 12).getD 0
theorem TBj_in (W : jf_W f) {l : Nat} (h : bt (tx_R f 12) l = true) : TBj f l < 12 ∧ bt f.2.2 (TBj f l) = true ∧ jt_T f (TBj f l) = jt_T f l ∧ TB f 12 l = TX f (TBj f l) 0 := by
  obtain ⟨l12, sl, hlo⟩ := (tx_R_bt (by omega)).mp h
  obtain ⟨j, hj⟩ : ∃ j, TBo f (jt_T f l) 12 = some j := tx_s_some (Or.inr ⟨l, by omega, by omega, (lo_some.mp hlo).2.1⟩)
  obtain ⟨j1, j2⟩ := TBo_in hj
  have e : TBj f l = j := by unfold TBj; rw [hj]; rfl
  rw [e]
  exact ⟨j1, (jt_T_in W.1 l12 sl j2).2, jt_T_sym W.1 l12 j2, by unfold TB; rw [hj]⟩
theorem ff_sum_a (W : jf_W f) (own : Nat → Int) {R : Int32} (hR : ∀ l, bt R l = true ↔ l < 12 ∧ bt f.2.2 l = true ∧ lo (jt_T f l) = some l) : js (fun l => js (fun v => if bt R l = true then (if bt (jt_T f l) v = true then own v else 0) else 0) 12) 12 = js (fun v => if bt f.2.2 v = true then own v else 0) 12 := by
  rw [js_swap]
  refine js_congr fun v hv => ?_
  by_cases sv : bt f.2.2 v = true
  · rw [if_pos sv]
    obtain ⟨l, hlo, lv, Tl, bl⟩ := tx_lo W.1 hv
    have l12 : l < 12 := by omega
    have sl := (jt_T_in W.1 hv sv bl).2
    have e : js (fun k => if bt R k = true then (if bt (jt_T f k) v = true then own v else 0) else 0) 12 = js (fun k => if k = l then own v else 0) 12 := js_congr fun k hk => by
      by_cases z : k = l
      · rw [if_pos z, z, if_pos ((hR l).mpr ⟨l12, sl, by rw [Tl]; exact hlo⟩), if_pos (by rw [Tl]; exact jt_T_self f hv)]
      · rw [if_neg z]
        by_cases w : bt R k = true
        · rw [if_pos w]
          by_cases y : bt (jt_T f k) v = true
          · have lk := ((hR k).mp w).2.2
            have lk2 : some l = some k := hlo.symm.trans (by rw [jt_T_sym W.1 hk y]; exact lk)
            exact absurd (Option.some.inj lk2).symm z
          · rw [if_neg y]
        · rw [if_neg w]
    rw [e, js_delta (fun _ => own v), if_pos l12]
  · rw [if_neg sv]
    have e : js (fun k => if bt R k = true then (if bt (jt_T f k) v = true then own v else 0) else 0) 12 = js (fun _ => 0) 12 := js_congr fun k hk => by
      by_cases w : bt R k = true
      · rw [if_pos w]
        by_cases y : bt (jt_T f k) v = true
        · exact absurd (jt_T_in W.1 hk ((hR k).mp w).2.1 y).2 sv
        · rw [if_neg y]
      · rw [if_neg w]
    rw [e, js_0]
theorem dec_all (W : jf_W f) : dec c (TT f) [] 0 = js (fun v => if bt f.2.2 v = true then cv c f v else 0) 12 := by
  rw [← ff_sum_a W (cv c f) (R := tx_R f 12) (fun l => tx_R_bt (Nat.le_refl _))]
  have K := fun l (hl : bt (tx_R f 12) l = true) => TBj_in W hl
  unfold TT
  generalize tx_R f 12 = R at K ⊢
  have := dec_r (c := c) (t := TB f 12) (P := fun l => js (fun v => if bt (jt_T f l) v = true then cv c f v else 0) 12) (bc_le R) (fun k hk R' acc => by
    obtain ⟨a, b, c', d⟩ := K k hk
    obtain ⟨o, par, sz, J⟩ := wy_ex W a b
    rw [d, dec_root W.1 J, c']) [] 0
  rw [List.append_nil] at this
  rw [this]
  show 0 + _ = _
  rw [Int.zero_add]
  refine js_congr fun l hl => ?_
  by_cases w : bt R l = true
  · rw [if_pos w]
    exact js_congr fun v _ => by rw [if_pos w]
  · rw [if_neg w]
    have e : js (fun v => if bt R l = true then (if bt (jt_T f l) v = true then cv c f v else 0) else 0) 12 = js (fun _ => 0) 12 := js_congr fun v _ => by rw [if_neg w]
    rw [e, js_0]
/-- one text: one size, one print -/
theorem TT_same (W : jf_W f) (V : jf_W g) (e : TT f = TT g) : bc f.2.2 = bc g.2.2 ∧ jF_print f = jF_print g := by
  have s1 := dec_all (c := fun _ _ _ => 1) W
  have s2 := dec_all (c := fun _ _ _ => 1) V
  have p1 := dec_all (c := fun w d s => (cb w d s).toInt) W
  have p2 := dec_all (c := fun w d s => (cb w d s).toInt) V
  rw [e, s2] at s1
  rw [e, p2] at p1
  unfold cv at s1 p1
  rw [js_one, js_one] at s1
  refine ⟨by omega, ?_⟩
  unfold jF_print
  rw [jk_sum_js, jk_sum_js]
  congr 1
  rw [js_congr (g := fun k => (if bt f.2.2 k = true then jF_own f k else 0).toInt) (h := fun v => if bt f.2.2 v = true then (cb (f.1 v) (Int32.ofNat (bc (f.2.1 v))) (jF_ns f v)).toInt else 0) (fun k _ => by split <;> rfl), js_congr (g := fun k => (if bt g.2.2 k = true then jF_own g k else 0).toInt) (h := fun v => if bt g.2.2 v = true then (cb (g.1 v) (Int32.ofNat (bc (g.2.1 v))) (jF_ns g v)).toInt else 0) (fun k _ => by split <;> rfl)]
  exact p1.symm
end
