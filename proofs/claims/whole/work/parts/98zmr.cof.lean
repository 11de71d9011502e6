/-! LINK: the determinant is the minor; a cofactor is the minor beside the way -/
section
variable {f : jF}
/-- a forest cut down to a set -/
def rsF (f : jF) (S : Int32) : jF := (fun k => if bt S k = true then f.1 k else 0, fun k => if bt S k = true then f.2.1 k &&& S else 0, S)
theorem rsF_n {S : Int32} {x y : Nat} : bt ((rsF f S).2.1 x) y = (bt S x && (bt (f.2.1 x) y && bt S y)) := by
  show bt (if bt S x = true then f.2.1 x &&& S else 0) y = _
  cases c : bt S x
  · rw [if_neg (by simp), bt_0]; rfl
  · rw [if_pos rfl, bt_and]; rfl
theorem rsF_W (W : jf_W f) {S : Int32} (hs : sub S f.2.2) (h12 : S12 S) : jf_W (rsF f S) := by
  have B := W.1
  refine ⟨⟨h12, fun k hk j hj => ?_, fun k j hk hj => ?_, fun k hk => ?_, fun k hk h => ?_, fun k hk => ?_⟩, ?_⟩
  · rw [rsF_n, h12 j hj]; simp
  · rw [rsF_n, rsF_n, B.sym hk hj]
    cases bt S k <;> cases bt S j <;> simp
  · rw [rsF_n, B.irr hk]; simp
  · have h : bt S k = false := h
    show (if bt S k = true then f.1 k else 0) = 0 ∧ (if bt S k = true then f.2.1 k &&& S else 0) = 0
    rw [h]
    exact ⟨rfl, rfl⟩
  · show jp_wt (if bt S k = true then f.1 k else 0) = true
    split
    · exact B.wt hk
    · decide
  · refine AC_mono W.2 (fun x _ hx => hs x hx) (fun x y _ _ _ _ h => ?_)
    have h : bt ((rsF f S).2.1 x) y = true := h
    rw [rsF_n] at h
    show bt (f.2.1 x) y = true
    simp at h
    exact h.2.1
theorem rsF_ec {S : Int32} {x y : Nat} (hx : bt S x = true) (hy : bt S y = true) : ec (rsF f S) x y = ec f x y := by
  unfold ec ee
  rw [rsF_n, hx, hy, Bool.true_and, Bool.and_true]
theorem rsF_M (w : Nat → Int) {S X : Int32} (h : sub X S) : Mw w (rsF f S) X = Mw w f X := mx_p_congr (fun _ _ => rfl) (fun a ha b hb => rsF_ec (h a (sl_mem.mp ha).2) (h b (sl_mem.mp hb).2))
theorem bW_self (W : jf_W f) (w : Nat → Int) {p : Nat} (hp : p < 12) (sp : bt f.2.2 p = true) : bW w f p p = Mw w f (f.2.2 &&& (jk_bit p ^^^ (-1))) := by
  obtain ⟨o, par, sz, J⟩ := wy_exi W hp sp
  have P0 := (wy_P W.1 hp J).1
  unfold bW
  rw [if_pos (jt_T_self f hp), P0]
  have : bc (jk_bit p) = 1 := by
    have := bc_set_eq (x := 0) hp (bt_0 p)
    rw [Int32.zero_or] at this
    rw [this]; rfl
  rw [this]
  show ((-1) * (-1) : Int) * _ = _
  omega
theorem wA_sym (B : jf_B f) (w : Nat → Int) (a b : Nat) : wA w (ec f) a b = wA w (ec f) b a := by
  unfold wA
  by_cases z : a = b
  · rw [z]
  · rw [if_neg z, if_neg (fun y => z y.symm), ec_sym B]
theorem ec_01 (a b : Nat) : 0 ≤ ec f a b ∧ ec f a b ≤ 1 := by
  unfold ec
  split
  · exact ⟨i01_nn _, i01_le _⟩
  · decide
theorem dt_lg (W : jf_W f) {w : Nat → Int} (hw : ∀ a, a < 12 → 13 ≤ w a) : ∀ (n : Nat) (S : Int32), bc S = n → sub S f.2.2 → S12 S → dt (wA w (ec f)) (sl S).reverse (sl S) = Mw w f S
  | 0, S, e, _, h12 => by
    unfold Mw
    rw [bc_0 h12 e, sl_0]; rfl
  | n + 1, S, e, hs, h12 => by
    obtain ⟨p, hlo⟩ := bc_lo (x := S) (by omega)
    obtain ⟨hp, bp, -⟩ := lo_some.mp hlo
    have W' := rsF_W W hs h12
    have hb : S12 (S &&& (jk_bit p ^^^ (-1))) := fun k hk => by rw [bt_and, h12 k hk]; rfl
    have ss : sub (S &&& (jk_bit p ^^^ (-1))) S := fun k hk => by rw [bt_and] at hk; simp at hk; exact hk.1
    have c1 := bc_clr_eq hp bp
    have ih := dt_lg W hw n (S &&& (jk_bit p ^^^ (-1))) (by omega) (fun k hk => hs k (ss k hk)) hb
    have hpC : p ∈ sl S := sl_mem.mpr ⟨hp, bp⟩
    have adj := hc_adj (wA w (ec (rsF f S))) (C := sl S) (sl_nodup S) (fun a _ b _ => wA_sym W'.1 w a b) hpC hpC (b := bW w (rsF f S) p) (M := Mw w (rsF f S) S) (fun r hr => adj_sys W' w hp bp hr)
    have eA : ∀ {R C : List Nat}, (∀ r, r ∈ R → bt S r = true) → (∀ q, q ∈ C → bt S q = true) → dt (wA w (ec (rsF f S))) R C = dt (wA w (ec f)) R C := fun hR hC => dt_congr _ (fun r hr q hq => by
      unfold wA
      by_cases z : r = q
      · rw [if_pos z, if_pos z]
      · rw [if_neg z, if_neg z, rsF_ec (hR r hr) (hC q hq)])
    have inS : ∀ q, q ∈ sl S → bt S q = true := fun q hq => (sl_mem.mp hq).2
    have inE : ∀ q, q ∈ (sl S).erase p → bt S q = true := fun q hq => inS q (List.mem_of_mem_erase hq)
    have e1 : hc (wA w (ec (rsF f S))) (sl S) p p = Mw w f (S &&& (jk_bit p ^^^ (-1))) := by
      unfold hc
      rw [← Int.mul_assoc, sn_sq, Int.one_mul, eA (fun r hr => inE r (List.mem_reverse.mp hr)) inE, ← sl_erase S hp]
      exact ih
    have e2 : bW w (rsF f S) p p = Mw w f (S &&& (jk_bit p ^^^ (-1))) := by
      rw [bW_self W' w hp bp]
      exact rsF_M w ss
    rw [e1, e2, rsF_M w (fun _ h => h), eA (fun r hr => inS r (List.mem_reverse.mp hr)) inS] at adj
    have pos := (mx_lg (ec_sym W.1) (fun a b => ec_01 a b) _ (sl (S &&& (jk_bit p ^^^ (-1)))) rfl (by rw [sl_length]; exact bc_le _) (sl_nodup _) (fun a ha => hw a (sl_mem.mp ha).1)).1
    have pos : 0 < Mw w f (S &&& (jk_bit p ^^^ (-1))) := pos
    rw [Int.mul_comm] at adj
    exact (Int.eq_of_mul_eq_mul_left (by omega) adj).symm
/-- the determinant of the table -/
theorem dt_MP (W : jf_W f) : dt (wA (ew f) (ec f)) (sl f.2.2).reverse (sl f.2.2) = MP f f.2.2 := by
  have h := PP_uniq (PP_dt (ew f) (ec f) (sl f.2.2).reverse (sl f.2.2)) (PP_mf (ew f) (ec f) (sl f.2.2).length (sl f.2.2)) (N0 := 43) (fun N hN => by
    exact dt_lg W (w := wN (ew f) N) (fun a ha => by
      have := ew_bd W.1 ha
      show 13 ≤ ew f a + N
      omega) _ f.2.2 rfl (fun _ h => h) W.1.s) 0
  have e : wN (ew f) 0 = ew f := funext fun p => Int.add_zero _
  rw [e] at h
  rw [h, MP_ec]; rfl
/-- what stands beside the way, with its sign -/
noncomputable def coF (f : jF) (p q : Nat) : Int := if bt (jt_T f q) p = true then (-1) ^ (bc (jq_way f p q) + 1) * MP f (f.2.2 &&& (jq_way f p q ^^^ (-1))) else 0
theorem hc_co (W : jf_W f) {p q : Nat} (hp : p ∈ sl f.2.2) (hq : q ∈ sl f.2.2) (h0 : MP f f.2.2 ≠ 0) : hc (wA (ew f) (ec f)) (sl f.2.2) p q = coF f p q := by
  have mp := sl_mem.mp hp
  have mq := sl_mem.mp hq
  have eM : ∀ S, Mw (ew f) f S = MP f S := fun S => (MP_ec f S).symm
  have adj := hc_adj (wA (ew f) (ec f)) (C := sl f.2.2) (sl_nodup _) (fun a _ b _ => wA_sym W.1 (ew f) a b) hp hq (b := bW (ew f) f q) (M := Mw (ew f) f f.2.2) (fun r hr => adj_sys W (ew f) mq.1 mq.2 hr)
  rw [dt_MP W, eM, Int.mul_comm (bW (ew f) f q p)] at adj
  rw [Int.eq_of_mul_eq_mul_left h0 adj]
  unfold bW coF
  rw [eM]
end
