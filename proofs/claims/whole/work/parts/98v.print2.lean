/-! TEXTS: the print and the size are said by the text -/
def cb (w d s : Int32) : Int32 := ((((w * 31 + d) * 1009 + s) + 77777) * (((w * 31 + d) * 1009 + s) + 77777)) * (((w * 31 + d) * 1009 + s) + 77777)
def jF_ns (f : jF) (p : Nat) : Int32 := jk_sum (fun q => if bt (f.2.1 p) q = true then f.1 q else 0) 12
def jF_own (f : jF) (p : Nat) : Int32 := cb (f.1 p) (Int32.ofNat (bc (f.2.1 p))) (jF_ns f p)
def jF_print (f : jF) : Int32 := jk_sum (fun p => if bt f.2.2 p = true then jF_own f p else 0) 12
def fn_n : jFo → Int := fs (fun _ _ => 1)
def fn_s : jFo → Int := fs (fun w _ => w.toInt)
def prF (d s : Int) : jFo → Int
  | .nil => 0
  | .cons w c r => ((cb w (Int32.ofInt (d + fn_n c)) (Int32.ofInt (s + fn_s c))).toInt + prF 1 w.toInt c) + prF d s r
def szF : jFo → Int
  | .nil => 0
  | .cons w c r => (1 + szF c) + szF r
theorem prF_fs (d s : Int) : ∀ F, prF d s F = fs (fun w c => (cb w (Int32.ofInt (d + fn_n c)) (Int32.ofInt (s + fn_s c))).toInt + prF 1 w.toInt c) F
  | .nil => rfl
  | .cons w c r => by
    show _ + prF d s r = _ + fs _ r
    rw [prF_fs d s r]
theorem szF_fs : ∀ F, szF F = fs (fun _ c => 1 + szF c) F
  | .nil => rfl
  | .cons w c r => by
    show _ + szF r = _ + fs _ r
    rw [szF_fs r]
theorem jk_sum_js (g : Nat → Int32) : ∀ n, jk_sum g n = Int32.ofInt (js (fun k => (g k).toInt) n)
  | 0 => rfl
  | n + 1 => by
    show jk_sum g n + g n = Int32.ofInt (js (fun k => (g k).toInt) n + (g n).toInt)
    rw [jk_sum_js g n, Int32.ofInt_add, Int32.ofInt_toInt]
section
variable {f : jF} {q : Nat} {o : Nat → Nat} {par : Nat → Option Nat} {sz : Nat}
def tx_pd (par : Nat → Option Nat) (v : Nat) : Int := match par v with | none => 0 | some _ => 1
def tx_ps (f : jF) (par : Nat → Option Nat) (v : Nat) : Int := match par v with | none => 0 | some y => (f.1 y).toInt
def tx_PP (f : jF) (par : Nat → Option Nat) (v : Nat) : Int := (cb (f.1 v) (Int32.ofInt (tx_pd par v + fn_n (FX f v (tx_u par v)))) (Int32.ofInt (tx_ps f par v + fn_s (FX f v (tx_u par v))))).toInt + prF 1 (f.1 v).toInt (FX f v (tx_u par v))
theorem tx_near (B : jf_B f) (J : wy_J f q o par sz) {i : Nat} (hi : i < sz) (g : Nat → Int) : js (fun k => if bt (f.2.1 (o i)) k = true then g k else 0) 12 = (match par (o i) with | none => 0 | some y => g y) + js (fun k => if bt (tx_d f par (o i)) k = true then g k else 0) 12 := by
  cases e : par (o i) with
  | none =>
    have de : tx_d f par (o i) = f.2.1 (o i) := by unfold tx_d tx_u; rw [e]; exact and_all _
    rw [de]; dsimp only; omega
  | some y =>
    obtain ⟨y12, ey⟩ : y < 12 ∧ bt (f.2.1 (o i)) y = true := by
      rcases Nat.eq_zero_or_pos i with z | z
      · rw [z, J.2.2.1, J.2.2.2.1] at e; cases e
      · obtain ⟨j, l, p1, p2⟩ := J.2.2.2.2.2.2.2.1 i z hi
        rw [e] at p1; injection p1 with p1
        have oj := (J.2.2.2.2.1 j (by omega)).1
        rw [p1]
        exact ⟨oj, by rw [B.sym (J.2.2.2.2.1 i hi).1 oj]; exact p2⟩
    have de : tx_d f par (o i) = f.2.1 (o i) &&& (jk_bit y ^^^ (-1)) := by unfold tx_d tx_u; rw [e]
    rw [de]
    dsimp only
    rw [js_congr (g := fun k => if bt (f.2.1 (o i)) k = true then g k else 0) (h := fun k => (if k = y then g k else 0) + (if bt (f.2.1 (o i) &&& (jk_bit y ^^^ (-1))) k = true then g k else 0)) (fun k hk => ?_), js_add, js_delta g, if_pos y12]
    rw [clr_bt y12 (by omega)]
    by_cases z : k = y
    · subst z; rw [ey]; simp
    · rw [if_neg z]; simp [z]
theorem js_one (S : Int32) : js (fun k => if bt S k = true then 1 else 0) 12 = bc S := by
  rw [← js_bc]; exact js_congr fun k _ => by cases bt S k <;> rfl
theorem tx_PP_own (B : jf_B f) (J : wy_J f q o par sz) {i : Nat} (hi : i < sz) : tx_PP f par (o i) = (jF_own f (o i)).toInt + js (fun k => if bt (tx_d f par (o i)) k = true then tx_PP f par k else 0) 12 := by
  have n1 : fn_n (FX f (o i) (tx_u par (o i))) = js (fun k => if bt (tx_d f par (o i)) k = true then 1 else 0) 12 := by
    unfold fn_n; rw [FX_eq B J hi, fc_sum _ (bc_le _)]
  have s1 : fn_s (FX f (o i) (tx_u par (o i))) = js (fun k => if bt (tx_d f par (o i)) k = true then (f.1 k).toInt else 0) 12 := by
    unfold fn_s; rw [FX_eq B J hi, fc_sum _ (bc_le _)]
  have p1 : prF 1 (f.1 (o i)).toInt (FX f (o i) (tx_u par (o i))) = js (fun k => if bt (tx_d f par (o i)) k = true then tx_PP f par k else 0) 12 := by
    rw [prF_fs, FX_eq B J hi, fc_sum _ (bc_le _)]
    refine js_congr fun k hk => ?_
    by_cases z : bt (tx_d f par (o i)) k = true
    · rw [if_pos z, if_pos z]
      obtain ⟨j, l, hj, rfl, e⟩ := tx_low B J hi z
      unfold tx_PP
      rw [show tx_pd par (o j) = 1 by unfold tx_pd; rw [e], show tx_ps f par (o j) = (f.1 (o i)).toInt by unfold tx_ps; rw [e]]
    · rw [if_neg z, if_neg z]
  have n2 := tx_near B J hi (fun _ => 1)
  have s2 := tx_near B J hi (fun k => (f.1 k).toInt)
  rw [js_one] at n2
  have a1 : Int32.ofInt (tx_pd par (o i) + fn_n (FX f (o i) (tx_u par (o i)))) = Int32.ofNat (bc (f.2.1 (o i))) := by
    rw [n1, show tx_pd par (o i) + js (fun k => if bt (tx_d f par (o i)) k = true then 1 else 0) 12 = (bc (f.2.1 (o i)) : Int) by rw [n2]; unfold tx_pd; rfl]
    rfl
  have a2 : Int32.ofInt (tx_ps f par (o i) + fn_s (FX f (o i) (tx_u par (o i)))) = jF_ns f (o i) := by
    rw [s1, show tx_ps f par (o i) + js (fun k => if bt (tx_d f par (o i)) k = true then (f.1 k).toInt else 0) 12 = js (fun k => if bt (f.2.1 (o i)) k = true then (f.1 k).toInt else 0) 12 by rw [s2]; unfold tx_ps; rfl]
    unfold jF_ns
    rw [jk_sum_js]
    congr 1
    exact js_congr fun k _ => by split <;> rfl
  show (cb (f.1 (o i)) (Int32.ofInt (tx_pd par (o i) + fn_n (FX f (o i) (tx_u par (o i))))) (Int32.ofInt (tx_ps f par (o i) + fn_s (FX f (o i) (tx_u par (o i)))))).toInt + prF 1 (f.1 (o i)).toInt (FX f (o i) (tx_u par (o i))) = _
  rw [a1, a2, p1]
  rfl
end
/-- a tree's best end -/
def TBj (f : jF) (l : Nat) : Nat := (TBo f (jt_T f l) 12).getD 0
def FF (f : jF) : jFo := fc (fun l => (f.1 (TBj f l), FX f (TBj f l) 0)) (TB f 12) 12 (tx_R f 12)
section
variable {f g : jF}
theorem TBj_in (W : jf_W f) {l : Nat} (h : bt (tx_R f 12) l = true) : TBj f l < 12 ∧ bt f.2.2 (TBj f l) = true ∧ jt_T f (TBj f l) = jt_T f l ∧ TB f 12 l = TX f (TBj f l) 0 := by
  obtain ⟨l12, sl, hlo⟩ := (tx_R_bt (by omega)).mp h
  obtain ⟨j, hj⟩ : ∃ j, TBo f (jt_T f l) 12 = some j := tx_s_some (Or.inr ⟨l, by omega, by omega, (lo_some.mp hlo).2.1⟩)
  obtain ⟨j1, j2⟩ := TBo_in hj
  have e : TBj f l = j := by unfold TBj; rw [hj]; rfl
  rw [e]
  exact ⟨j1, (jt_T_in W.1 l12 sl j2).2, jt_T_sym W.1 l12 j2, by unfold TB; rw [hj]⟩
theorem FF_t (W : jf_W f) : fo_t (FF f) = TT f ∧ fo_ok (FF f) := by
  have K : ∀ l, bt (tx_R f 12) l = true → TB f 12 l = 40 :: (tx_w (f.1 (TBj f l)) ++ (fo_t (FX f (TBj f l) 0) ++ [41])) ∧ fo_ok (FX f (TBj f l) 0) ∧ TBj f l < 12 := fun l hl => by
    obtain ⟨a, b, c, d⟩ := TBj_in W hl
    obtain ⟨o, par, sz, J⟩ := wy_ex W a b
    have u0 : tx_u par (TBj f l) = 0 := by unfold tx_u; rw [J.2.2.2.1]
    obtain ⟨x, y⟩ := FX_t W.1 J 12 0 J.1 (by have := J.2.1; omega)
    rw [J.2.2.1, u0] at x y
    exact ⟨by rw [d]; exact x, y, a⟩
  exact ⟨fc_t fun l hl => (K l hl).1, fc_ok fun l hl => ⟨W.1.wt (K l hl).2.2, (K l hl).2.1⟩⟩
theorem ff_sum_a (W : jf_W f) (own : Nat → Int) {R : Int32} (hR : ∀ l, bt R l = true ↔ l < 12 ∧ bt f.2.2 l = true ∧ lo (jt_T f l) = some l) : js (fun l => js (fun v => if bt R l = true then (if bt (jt_T f l) v = true then own v else 0) else 0) 12) 12 = js (fun v => if bt f.2.2 v = true then own v else 0) 12 := by
  rw [js_swap]
  refine js_congr fun v hv => ?_
  by_cases sv : bt f.2.2 v = true
  · rw [if_pos sv]
    obtain ⟨l, hlo, lv, Tl, bl⟩ := tx_lo W.1 hv
    have l12 : l < 12 := by omega
    have sl := (jt_T_in W.1 hv sv bl).2
    have e : js (fun k => if bt R k = true then (if bt (jt_T f k) v = true then own v else 0) else 0) 12 = js (fun k => if k = l then own v else 0) 12 := js_congr fun k hk => by
      by_cases z : k = l
      · rw [if_pos z, z, if_pos ((hR l).mpr ⟨l12, sl, by rw [Tl]; exact hlo⟩), if_pos (by rw [Tl]; exact jt_T_self f hv)]
      · rw [if_neg z]
        by_cases w : bt R k = true
        · rw [if_pos w]
          by_cases y : bt (jt_T f k) v = true
          · have lk := ((hR k).mp w).2.2
            have lk2 : some l = some k := hlo.symm.trans (by rw [jt_T_sym W.1 hk y]; exact lk)
            exact absurd (Option.some.inj lk2).symm z
          · rw [if_neg y]
        · rw [if_neg w]
    rw [e, js_delta (fun _ => own v), if_pos l12]
  · rw [if_neg sv]
    have e : js (fun k => if bt R k = true then (if bt (jt_T f k) v = true then own v else 0) else 0) 12 = js (fun _ => 0) 12 := js_congr fun k hk => by
      by_cases w : bt R k = true
      · rw [if_pos w]
        by_cases y : bt (jt_T f k) v = true
        · exact absurd (jt_T_in W.1 hk ((hR k).mp w).2.1 y).2 sv
        · rw [if_neg y]
      · rw [if_neg w]
    rw [e, js_0]
theorem ff_sum (W : jf_W f) (own : Nat → Int) (p : Int32 → jFo → Int) (h : ∀ q, q < 12 → bt f.2.2 q = true → p (f.1 q) (FX f q 0) = js (fun v => if bt (jt_T f q) v = true then own v else 0) 12) : fs p (FF f) = js (fun v => if bt f.2.2 v = true then own v else 0) 12 := by
  rw [← ff_sum_a W own (R := tx_R f 12) (fun l => tx_R_bt (Nat.le_refl _))]
  have K := fun l (hl : bt (tx_R f 12) l = true) => TBj_in W hl
  unfold FF
  generalize tx_R f 12 = R at K ⊢
  rw [fc_sum p (bc_le _)]
  refine js_congr fun l hl => ?_
  by_cases w : bt R l = true
  · obtain ⟨a, b, c, d⟩ := K l w
    rw [if_pos w, h _ a b, c]
    exact js_congr fun v _ => by rw [if_pos w]
  · rw [if_neg w]
    have e : js (fun v => if bt R l = true then (if bt (jt_T f l) v = true then own v else 0) else 0) 12 = js (fun _ => 0) 12 := js_congr fun v _ => by rw [if_neg w]
    rw [e, js_0]
theorem FF_size (W : jf_W f) : szF (FF f) = bc f.2.2 := by
  rw [szF_fs, ff_sum W (fun _ => 1) _ (fun q hq sq => ?_), js_one]
  obtain ⟨o, par, sz, J⟩ := wy_ex W hq sq
  have u0 : tx_u par q = 0 := by unfold tx_u; rw [J.2.2.2.1]
  have := tx_pot W.1 J (fun v => 1 + szF (FX f v (tx_u par v))) (fun _ => 1) (fun i hi => by
    rw [show szF (FX f (o i) (tx_u par (o i))) = js (fun k => if bt (tx_d f par (o i)) k = true then 1 + szF (FX f k (tx_u par k)) else 0) 12 by rw [szF_fs, FX_eq W.1 J hi, fc_sum _ (bc_le _)]])
  rw [u0] at this
  exact this
theorem FF_print (W : jf_W f) : Int32.ofInt (prF 0 0 (FF f)) = jF_print f := by
  unfold jF_print
  rw [jk_sum_js, prF_fs, ff_sum W (fun v => (jF_own f v).toInt) _ (fun q hq sq => ?_)]
  · congr 1
    exact js_congr fun k _ => by split <;> rfl
  · obtain ⟨o, par, sz, J⟩ := wy_ex W hq sq
    have u0 : tx_u par q = 0 := by unfold tx_u; rw [J.2.2.2.1]
    have := tx_pot W.1 J (tx_PP f par) (fun v => (jF_own f v).toInt) (fun i hi => tx_PP_own W.1 J hi)
    rw [← this]
    unfold tx_PP
    rw [u0, show tx_pd par q = 0 by unfold tx_pd; rw [J.2.2.2.1], show tx_ps f par q = 0 by unfold tx_ps; rw [J.2.2.2.1]]
/-- one text: one size, one print -/
theorem TT_same (W : jf_W f) (V : jf_W g) (e : TT f = TT g) : bc f.2.2 = bc g.2.2 ∧ jF_print f = jF_print g := by
  obtain ⟨a1, a2⟩ := FF_t W
  obtain ⟨b1, b2⟩ := FF_t V
  have FG : FF f = FF g := (fo_t_inj (FF f) (FF g) [] [] a2 b2 (Or.inl rfl) (Or.inl rfl) (by rw [a1, b1, e])).1
  have s1 := FF_size W
  have s2 := FF_size V
  rw [FG] at s1
  exact ⟨by omega, by rw [← FF_print W, ← FF_print V, FG]⟩
end
