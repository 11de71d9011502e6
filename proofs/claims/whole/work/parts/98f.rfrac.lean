/-! fraction(): the reference -/
abbrev wy_c (f : jF) (p q : Nat) (S : Int32) (k : Nat) : Prop := bt S k = true ∧ k ≠ p ∧ k ≠ q ∧ bc (f.2.1 k &&& S) ≤ 1
def wy_i (f : jF) (p q : Nat) : Nat → Nat → Int32 → Int32
  | 0, _, S => S
  | m + 1, k, S => wy_i f p q m (k + 1) (if wy_c f p q S k then S &&& (jk_bit k ^^^ (-1)) else S)
theorem sub_refl (x : Int32) : sub x x := fun _ h => h
theorem sub_trans {x y z : Int32} (h1 : sub x y) (h2 : sub y z) : sub x z := fun k h => h2 k (h1 k h)
theorem wy_i_sub (f : jF) (p q : Nat) : ∀ (m k : Nat) (S : Int32), sub (wy_i f p q m k S) S
  | 0, _, S => sub_refl S
  | m + 1, k, S => by
    unfold wy_i
    refine sub_trans (wy_i_sub f p q m (k + 1) _) ?_
    split
    · exact sub_clr (sub_refl S) _
    · exact sub_refl S
theorem wy_i_bc (f : jF) (p q : Nat) (m k : Nat) (S : Int32) : bc (wy_i f p q m k S) ≤ bc S := bc_mono fun j _ h => wy_i_sub f p q m k S j h
theorem wy_i_fix {f : jF} {p q : Nat} : ∀ (m k : Nat) (S : Int32), k + m = 12 → bc (wy_i f p q m k S) = bc S → wy_i f p q m k S = S ∧ ∀ j, k ≤ j → j < 12 → ¬ wy_c f p q S j
  | 0, k, S, e, _ => ⟨rfl, fun j h1 h2 => by omega⟩
  | m + 1, k, S, e, h => by
    unfold wy_i at h ⊢
    by_cases c : wy_c f p q S k
    · rw [if_pos c] at h
      have := wy_i_bc f p q m (k + 1) (S &&& (jk_bit k ^^^ (-1)))
      have := bc_clr_lt (show k < 12 by omega) c.1
      omega
    · rw [if_neg c] at h ⊢
      obtain ⟨a, b⟩ := wy_i_fix m (k + 1) S (by omega) h
      refine ⟨a, fun j h1 h2 => ?_⟩
      by_cases z : j = k
      · rw [z]; exact c
      · exact b j (by omega) h2
theorem wy_i_max {f : jF} {p q : Nat} {X : Int32} (K : wy_K f p q X) : ∀ (m k : Nat) (S : Int32), k + m = 12 → sub X S → sub X (wy_i f p q m k S)
  | 0, _, _, _, h => h
  | m + 1, k, S, e, h => by
    unfold wy_i
    refine wy_i_max K m (k + 1) _ (by omega) ?_
    split
    · rename_i c
      have xk : bt X k = false := by
        cases q' : bt X k
        · rfl
        · have := K k (by omega) q' c.2.1 c.2.2.1
          have l : bc (f.2.1 k &&& X) ≤ bc (f.2.1 k &&& S) := bc_mono fun j _ z => by
            rw [bt_and] at z ⊢
            simp at z
            rw [z.1, h j z.2]; rfl
          have := c.2.2.2
          omega
      intro j hj
      have jk : j ≠ k := fun z => by rw [z, xk] at hj; cases hj
      by_cases j32 : j < 32
      · rw [bt_and, h j hj, bt_not _ j32, bt_bit (by omega) j32]; simp [jk]
      · rw [bt_big _ (by omega)] at hj; cases hj
    · exact h
section
variable {rc : Nat → Nat × (Nat → Int32)} {h h' : jxH} {σ : jSt} {P : Nat → Prop}
theorem rr_way_i (R : RSt h σ) {p q : Nat} (hp : p < 12) (hq : q < 12) (was : Int32) (d : Nat) : ∀ (m k : Nat) (S : Int32), k + m = 12 → jb_142 rc (d + 1) 14 [(0, .ref 336), (1, .int (Int32.ofNat p)), (2, .int (Int32.ofNat q)), (3, .int S), (4, .int was), (5, .int (Int32.ofNat k))] [] h = jb_142 rc (d + 1) 7 [(0, .ref 336), (1, .int (Int32.ofNat p)), (2, .int (Int32.ofNat q)), (3, .int (wy_i (sF σ) p q m k S)), (4, .int was)] [] h
  | 0, k, S, e => by
    obtain rfl : k = 12 := by omega
    rw [je_142_14, if_pos (by decide)]; rfl
  | m + 1, k, S, e => by
    have hk : k < 12 := by omega
    have an : S &&& (-1 : Int32) = S := Int32.and_neg_one
    rw [je_142_14, if_neg (jk_n12 hk), rf_has _ _ (by omega), jk_cI, jk_if0]
    unfold wy_i
    by_cases c1 : bt S k = true
    · rw [if_pos c1]
      by_cases c2 : k = p
      · rw [if_pos (by rw [c2]), if_pos rfl, an, jk_succ, rr_way_i R hp hq was d m (k + 1) S (by omega), if_neg (fun z => z.2.1 c2)]
      · rw [if_neg (by rw [jk_inj (by omega) (by omega)]; exact c2)]
        by_cases c3 : k = q
        · rw [if_pos (by rw [c3]), if_pos rfl, an, jk_succ, rr_way_i R hp hq was d m (k + 1) S (by omega), if_neg (fun z => z.2.2.1 c3)]
        · rw [if_neg (by rw [jk_inj (by omega) (by omega)]; exact c3), R.g1, jk_bs, ro_n R.F hk, jk_bs, rf_many, jk_cI]
          by_cases c4 : bc ((sF σ).2.1 k &&& S) ≤ 1
          · rw [if_neg (fun z => (jk_lt1 _).mp z c4), if_neg (by decide), jk_succ]
            have := rr_way_i R hp hq was d m (k + 1) (S &&& (jk_bit k ^^^ (-1))) (by omega)
            rw [if_pos ⟨c1, c2, c3, c4⟩]
            exact this
          · rw [if_pos ((jk_lt1 _).mpr c4), if_pos rfl, an, jk_succ, rr_way_i R hp hq was d m (k + 1) S (by omega), if_neg (fun z => c4 z.2.2.2)]
    · rw [if_neg c1, if_pos rfl, an, jk_succ, rr_way_i R hp hq was d m (k + 1) S (by omega), if_neg (fun z => c1 z.1)]
theorem rr_way_o (R : RSt h σ) {p q : Nat} (hp : p < 12) (hq : q < 12) : ∀ (m : Nat) (S was : Int32), bc S ≤ m → S12 S → (was = S → wy_K (sF σ) p q S) → ∃ X, (∀ d, jb_142 rc (d + 1) 7 [(0, .ref 336), (1, .int (Int32.ofNat p)), (2, .int (Int32.ofNat q)), (3, .int S), (4, .int was)] [] h = some (some (.int (if p = q then jk_bit p else X)), h)) ∧ sub X S ∧ wy_K (sF σ) p q X ∧ ∀ Y, sub Y S → wy_K (sF σ) p q Y → sub Y X
  | m, S, was, l, hS, hw => by
    have stop : ∀ d, jb_142 rc (d + 1) 7 [(0, .ref 336), (1, .int (Int32.ofNat p)), (2, .int (Int32.ofNat q)), (3, .int S), (4, .int S)] [] h = some (some (.int (if p = q then jk_bit p else S)), h) := fun d => by
      rw [je_142_7, if_pos rfl]
      by_cases c : p = q
      · rw [if_pos (by rw [c]), if_pos c]; rfl
      · rw [if_neg (by rw [jk_inj (by omega) (by omega)]; exact c), if_neg c]
    by_cases c : was = S
    · subst c
      exact ⟨was, stop, sub_refl _, hw rfl, fun Y h _ => h⟩
    · have st : ∀ d, jb_142 rc (d + 1) 7 [(0, .ref 336), (1, .int (Int32.ofNat p)), (2, .int (Int32.ofNat q)), (3, .int S), (4, .int was)] [] h = jb_142 rc (d + 1) 7 [(0, .ref 336), (1, .int (Int32.ofNat p)), (2, .int (Int32.ofNat q)), (3, .int (wy_i (sF σ) p q 12 0 S)), (4, .int S)] [] h := fun d => by
        rw [je_142_7, if_neg c]
        exact rr_way_i R hp hq S d 12 0 S (by omega)
      have le := wy_i_bc (sF σ) p q 12 0 S
      by_cases e : bc (wy_i (sF σ) p q 12 0 S) = bc S
      · obtain ⟨e1, e2⟩ := wy_i_fix 12 0 S (by omega) e
        refine ⟨S, fun d => ?_, sub_refl _, fun k hk hb kp kq => ?_, fun Y h _ => h⟩
        · rw [st d, e1]; exact stop d
        · have := e2 k (by omega) hk
          have : ¬ bc ((sF σ).2.1 k &&& S) ≤ 1 := fun z => this ⟨hb, kp, kq, z⟩
          omega
      · have ws := wy_i_sub (sF σ) p q 12 0 S
        cases m with
        | zero => omega
        | succ m =>
          obtain ⟨X, x1, x2, x3, x4⟩ := rr_way_o R hp hq m (wy_i (sF σ) p q 12 0 S) S (by omega) (fun k hk => by
            cases z : bt (wy_i (sF σ) p q 12 0 S) k
            · rfl
            · have := ws k z; rw [hS k hk] at this; cases this) (fun z => absurd (by rw [← z]) e)
          exact ⟨X, fun d => (st d).trans (x1 d), sub_trans x2 ws, x3, fun Y h1 h2 => x4 Y (wy_i_max h2 12 0 S (by omega) h1) h2⟩
theorem rr_way (R : RSt h σ) (A : AWt σ) {p q : Nat} (hp : p < 12) (hq : q < 12) (sp : bt (sF σ).2.2 p = true) (tq : bt (jt_T (sF σ) p) q = true) (d : Nat) : jx_C rc (d + 3) 142 [.ref 336, .int (Int32.ofNat p), .int (Int32.ofNat q)] h = some (some (.int (jq_w2 (sF σ) p q)), h) := by
  have eT := jt_T_sym A.B hp tq
  have S12T := jt_T_S A.B.n hp
  obtain ⟨X, x1, x2, x3, x4⟩ := rr_way_o (rc := rc) R hp hq 12 (jt_T (sF σ) p) 0 (bc_le _) S12T (fun z => by have := jt_T_self (sF σ) hp; rw [← z, bt_0] at this; cases this)
  have W : wy_is (sF σ) p q X := by
    unfold wy_is
    rw [eT]
    exact ⟨x2, x3, x4⟩
  rw [je_142, if_pos R.is, R.g1, jk_bs, rf_treeOf R.F A.B.n hp, jk_cI]
  unfold jq_w2
  rw [wy_eq W]
  exact x1 (d + 1)
theorem rr_fraction (R : RSt h σ) (A : AWt σ) (p q w : Int32) : ∃ h', (∀ d, jx_C rc (d + 20) 143 [.ref 336, .int p, .int q, .int w] h = some (some (.int (op_fraction σ p q w).1), h')) ∧ RSt h' (op_fraction σ p q w).2 ∧ rF h h' := by
  unfold op_fraction
  have z0 : (0 : Int64).toInt = 0 := by decide
  obtain ⟨e', e1, e2, e3⟩ := rr_error (rc := rc) R A (k := 1) (by decide) (K := 1) rfl
  by_cases c0 : jF_has (sF σ) p = true
  · rw [if_pos c0]
    obtain ⟨k, hk, rfl, sk⟩ := jF_has_iff.mp c0
    rw [show pn (Int32.ofNat k) = k from jk_cl (by omega)]
    by_cases c1 : jF_has (sF σ) q = true
    · rw [if_pos c1]
      obtain ⟨l, hl, rfl, sl⟩ := jF_has_iff.mp c1
      rw [show pn (Int32.ofNat l) = l from jk_cl (by omega)]
      by_cases cw : jp_part w = true
      · rw [if_pos cw]
        have st : ∀ d, jx_C rc (d + 20) 143 [.ref 336, .int (Int32.ofNat k), .int (Int32.ofNat l), .int w] h = _ := fun d => by
          rw [je_143, if_pos R.is, rr_isVertex R, jk_cI, jk_if0, if_pos c0, rr_isVertex R, jk_cI, jk_if0, if_pos c1, rf_in, jk_cI, jk_if0, show (1 : Int64) = (1 : Int32).toInt64 from rfl, jp_bt_hi, jp_part_hi, if_pos cw, R.g1, jk_bs, rf_treeOf R.F A.B.n hk, jk_cI, rf_has _ _ (by omega), jk_cI, jk_if0]
        have sym : bt (jt_T (sF σ) l) k = bt (jt_T (sF σ) k) l := by
          cases a : bt (jt_T (sF σ) k) l
          · cases b : bt (jt_T (sF σ) l) k
            · rfl
            · rw [jt_T_sym A.B hl b, jt_T_self _ hl] at a; cases a
          · rw [jt_T_sym A.B hk a, jt_T_self _ hk]
        rw [sym]
        by_cases tp : bt (jt_T (sF σ) k) l = true
        · rw [if_pos tp]
          obtain ⟨h1, g', r1, R1, F1, r2, r3⟩ := rr_lay (rc := rc) R A
          have hX : sub (jq_w2 (sF σ) k l) (sF σ).2.2 := by
            unfold jq_w2
            by_cases c : k = l
            · rw [if_pos c]
              intro y hy
              by_cases y32 : y < 32
              · rw [bt_bit (by omega) y32] at hy
                rw [of_decide_eq_true hy]; exact sk
              · rw [bt_big _ (by omega)] at hy; cases hy
            · rw [if_neg c]
              have eT := jt_T_sym A.B hk tp
              obtain ⟨X, x1, x2, x3, x4⟩ := rr_way_o (rc := fun _ => (0, fun _ => 0)) R hk hl 12 (jt_T (sF σ) k) 0 (bc_le _) (jt_T_S A.B.n hk) (fun z => by have := jt_T_self (sF σ) hk; rw [← z, bt_0] at this; cases this)
              have W : wy_is (sF σ) k l X := by unfold wy_is; rw [eT]; exact ⟨x2, x3, x4⟩
              rw [wy_eq W]
              exact fun y hy => (jt_T_in A.B hk sk (x2 y hy)).2
          have rd := mp_read A r2 r3 (sub_clr hX (jk_bit k ^^^ (-1)))
          unfold jk_bit at rd
          have fx : jx_aL (jx_at h1 382) (jq_w2 (sF σ) k l) = some (jq_fx (sF σ) k l) := mp_read A r2 r3 hX
          have fy : jx_aL (jx_at h1 382) (jq_w2 (sF σ) k l &&& ((1 : Int32) <<< (Int32.ofNat k &&& 31) ^^^ (-1))) = some (jq_fy (sF σ) k l) := rd
          have st2 : ∀ d, jx_C rc (d + 20) 143 [.ref 336, .int (Int32.ofNat k), .int (Int32.ofNat l), .int w] h = _ := fun d => by
            rw [st d, if_pos tp, rr_way R A hk hl sk tp, jk_cI, r1, jk_cV, R1.g6, jk_bs, fx, jk_bs, jk_bs, fy, jk_bs]
          generalize jq_fx (sF σ) k l = x at *
          generalize jq_fy (sF σ) k l = y at *
          by_cases cy : y = 0
          · have ny : ¬ y.toInt < 0 := by rw [cy, z0]; omega
            have u1 : jq_fu x y = 1 := by unfold jq_fu; rw [if_neg ny, if_pos cy]
            have u0 : jq_fl y = 0 := by unfold jq_fl; rw [if_neg ny, cy]
            rw [u1, u0, tell_ok (by decide) (by decide), tell_ok (by decide) (by decide)]
            refine ⟨h1, fun d => ?_, ?_, F1⟩
            · rw [st2 d, if_pos ((lg_eq0 _ _).mpr cy)]
              by_cases w0 : w = 0
              · rw [if_pos w0, if_pos w0]; rfl
              · rw [if_neg w0, if_neg w0]; rfl
            · split <;> exact R1
          · have st3 := fun d => (st2 d).trans (if_neg (fun z => cy ((lg_eq0 _ _).mp z)))
            by_cases w0 : w = 0
            · rw [if_pos w0]
              by_cases ny : y.toInt < 0
              · have u1 : jq_fu x y = -x := by unfold jq_fu; rw [if_pos ny]
                rw [u1]
                obtain ⟨g'', g1, g2, g3⟩ := rr_orOver (rc := rc) R1 A (-x)
                refine ⟨g'', fun d => ?_, g2, F1.trans g3⟩
                rw [st3 d, if_pos w0, if_neg (by rw [lg_cmp_ge, Int64.le_iff_toInt_le, z0]; omega), g1, jk_cI]
              · have u1 : jq_fu x y = x := by unfold jq_fu; rw [if_neg ny, if_neg cy]
                rw [u1]
                obtain ⟨g'', g1, g2, g3⟩ := rr_orOver (rc := rc) R1 A x
                refine ⟨g'', fun d => ?_, g2, F1.trans g3⟩
                rw [st3 d, if_pos w0, if_pos (by rw [lg_cmp_ge, Int64.le_iff_toInt_le, z0]; omega), g1, jk_cI]
            · rw [if_neg w0]
              by_cases ny : y.toInt < 0
              · have u1 : jq_fl y = -y := by unfold jq_fl; rw [if_pos ny]
                rw [u1]
                obtain ⟨g'', g1, g2, g3⟩ := rr_orOver (rc := rc) R1 A (-y)
                refine ⟨g'', fun d => ?_, g2, F1.trans g3⟩
                rw [st3 d, if_neg w0, if_neg (by rw [lg_cmp_ge, Int64.le_iff_toInt_le, z0]; omega), g1, jk_cI]
              · have u1 : jq_fl y = y := by unfold jq_fl; rw [if_neg ny]
                rw [u1]
                obtain ⟨g'', g1, g2, g3⟩ := rr_orOver (rc := rc) R1 A y
                refine ⟨g'', fun d => ?_, g2, F1.trans g3⟩
                rw [st3 d, if_neg w0, if_pos (by rw [lg_cmp_ge, Int64.le_iff_toInt_le, z0]; omega), g1, jk_cI]
        · rw [if_neg tp]
          obtain ⟨f', f1, f2, f3⟩ := rr_error (rc := rc) R A (k := 2) (by decide) (K := 2) rfl
          refine ⟨f', fun d => ?_, f2, f3⟩
          rw [st d, if_neg tp, f1, jk_cI]
      · rw [if_neg cw]
        refine ⟨e', fun d => ?_, e2, e3⟩
        rw [je_143, if_pos R.is, rr_isVertex R, jk_cI, jk_if0, if_pos c0, rr_isVertex R, jk_cI, jk_if0, if_pos c1, rf_in, jk_cI, jk_if0, show (1 : Int64) = (1 : Int32).toInt64 from rfl, jp_bt_hi, jp_part_hi, if_neg cw, e1, jk_cI]
    · rw [if_neg c1]
      refine ⟨e', fun d => ?_, e2, e3⟩
      rw [je_143, if_pos R.is, rr_isVertex R, jk_cI, jk_if0, if_pos c0, rr_isVertex R, jk_cI, jk_if0, if_neg c1, e1, jk_cI]
  · rw [if_neg c0]
    refine ⟨e', fun d => ?_, e2, e3⟩
    rw [je_143, if_pos R.is, rr_isVertex R, jk_cI, jk_if0, if_neg c0, e1, jk_cI]
end
