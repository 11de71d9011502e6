/-! The reference's minors -/
def MO (h : jxH) : Prop := ∃ done all taped at_ wrong texted dues hired fl fm ff kh ik : Int32, jx_at h 336 = m_obj done all taped at_ wrong texted dues hired fl fm ff kh ik
def sub (x s : Int32) : Prop := ∀ k, bt x k = true → bt s k = true
theorem sub_iff {x s : Int32} : (x &&& (s ^^^ (-1)) = 0) ↔ sub x s := by
  constructor
  · intro e k hk
    have k32 : k < 32 := by
      apply Classical.byContradiction; intro z
      rw [bt_big _ (by omega)] at hk; cases hk
    exact jk_and_sub e k32 hk
  · intro e
    apply bt_ext
    intro k hk
    rw [bt_and, bt_not _ hk, bt_0]
    cases a : bt x k
    · rfl
    · rw [e k a]; rfl
theorem sub_clr {x s : Int32} (h : sub x s) (y : Int32) : sub (x &&& y) s := fun k hk => by
  rw [bt_and, Bool.and_eq_true] at hk; exact h k hk.1
theorem clr_lt {n p : Nat} (hn : n < 4096) (hp : p < 12) (hb : bt (Int32.ofNat n) p = true) : ∃ m, m < n ∧ Int32.ofNat n &&& (jk_bit p ^^^ (-1)) = Int32.ofNat m := by
  have hS : S12 (Int32.ofNat n &&& (jk_bit p ^^^ (-1))) := S12_and (S12_of hn)
  obtain ⟨m, hm, e⟩ := S12_nat hS
  refine ⟨m, ?_, e⟩
  have le : m ≤ n := by
    have : (Int32.ofNat m).toBitVec.toNat = (Int32.ofNat n).toBitVec.toNat &&& (jk_bit p ^^^ (-1)).toBitVec.toNat := by
      rw [← e, Int32.toBitVec_and, BitVec.toNat_and]
    rw [Int32.toBitVec_ofNat', Int32.toBitVec_ofNat', BitVec.toNat_ofNat, BitVec.toNat_ofNat, Nat.mod_eq_of_lt (by omega), Nat.mod_eq_of_lt (by omega)] at this
    rw [this]
    exact Nat.and_le_left
  have ne : m ≠ n := fun q => by
    rw [q] at e
    have : bt (Int32.ofNat n &&& (jk_bit p ^^^ (-1))) p = bt (Int32.ofNat n) p := by rw [e]
    rw [bt_clr _ hp hp, hb] at this
    simp at this
  omega
section
variable {rc : Nat → Nat × (Nat → Int32)} {h : jxH} {f : jF}
theorem MO.is (M : MO h) : jx_is (jx_at h 336) 12 = true := by obtain ⟨a1, a2, a3, a4, a5, a6, a7, a8, a9, a10, a11, a12, a13, e⟩ := M; rw [e]; rfl
theorem MO.g (M : MO h) (k v : Nat) (hk : ∀ a1 a2 a3 a4 a5 a6 a7 a8 a9 a10 a11 a12 a13 : Int32, jx_gR (m_obj a1 a2 a3 a4 a5 a6 a7 a8 a9 a10 a11 a12 a13) 12 k = some v) : jx_gR (jx_at h 336) 12 k = some v := by
  obtain ⟨a1, a2, a3, a4, a5, a6, a7, a8, a9, a10, a11, a12, a13, e⟩ := M; rw [e]; exact hk ..
theorem MO.g1 (M : MO h) : jx_gR (jx_at h 336) 12 1 = some 338 := M.g 1 338 (by intros; rfl)
theorem MO.g6 (M : MO h) : jx_gR (jx_at h 336) 12 6 = some 382 := M.g 6 382 (by intros; rfl)
theorem MO.fr {P : Nat → Prop} {h' : jxH} (F : Fr P h h') (hP : ¬ P 336) (M : MO h) : MO h' := by
  obtain ⟨a1, a2, a3, a4, a5, a6, a7, a8, a9, a10, a11, a12, a13, e⟩ := M
  exact ⟨a1, a2, a3, a4, a5, a6, a7, a8, a9, a10, a11, a12, a13, (F.2.2 _ hP).trans e⟩
/-- the terms of a minor's sum -/
def mF (f : jF) (p : Nat) (r : Int32) (q : Nat) : Int := if bt (r &&& f.2.1 p) q = true then MP f (r &&& (jk_bit q ^^^ (-1))) else 0
theorem rf_lay_l (M : MO h) (H : ro_at h 338 f) {g : Nat → Int64} (hg : jx_at h 382 = jxL 4096 g) {n p m : Nat} (hp : p < 12) (hm : m < 4096) (hk : ∀ j, j < m → sub (Int32.ofNat j) (Int32.ofNat m) → g j = Int64.ofInt (MP f (Int32.ofNat j))) (d : Nat) : ∀ (c k : Nat) (v : Int64), k + c = 12 → jb_117 rc (d + 2) 48 [(0, .ref 336), (1, .int (Int32.ofNat n)), (2, .int (Int32.ofNat p)), (3, .int (Int32.ofNat m)), (4, .long (v - Int64.ofInt (js (mF f p (Int32.ofNat m)) k))), (6, .int (Int32.ofNat k))] [] h = jb_117 rc (d + 2) 48 [(0, .ref 336), (1, .int (Int32.ofNat n)), (2, .int (Int32.ofNat p)), (3, .int (Int32.ofNat m)), (4, .long (v - Int64.ofInt (js (mF f p (Int32.ofNat m)) 12))), (6, .int (Int32.ofNat 12))] [] h
  | 0, k, v, e => by
    obtain rfl : k = 12 := by omega
    rfl
  | c + 1, k, v, e => by
    have k12 : k < 12 := by omega
    have step : ∀ x : Int64, Int64.ofInt (mF f p (Int32.ofNat m) k) = x → v - Int64.ofInt (js (mF f p (Int32.ofNat m)) k) - x = v - Int64.ofInt (js (mF f p (Int32.ofNat m)) (k + 1)) := fun x hx => by
      show _ = v - Int64.ofInt (js (mF f p (Int32.ofNat m)) k + mF f p (Int32.ofNat m) k)
      rw [Int64.ofInt_add, hx, Int64.sub_sub]
    rw [je_117_48, if_neg (jk_n12 k12), M.g1, jk_bs, ro_n H hp, jk_bs, rf_has _ _ (by omega), jk_cI, jk_if0, jk_succ]
    by_cases hb : bt (Int32.ofNat m &&& f.2.1 p) k = true
    · rw [if_pos hb, M.g6, jk_bs, hg]
      obtain ⟨j, j1, j2⟩ := clr_lt hm k12 (by rw [bt_and, Bool.and_eq_true] at hb; exact hb.1)
      show (jx_aL (jxL 4096 g) (Int32.ofNat m &&& (jk_bit k ^^^ (-1)))).bind _ = _
      rw [j2, jk_aL (by omega) (by decide), jk_bs, step (g j) (by unfold mF; rw [if_pos hb, hk j j1 (by rw [← j2]; exact sub_clr (fun _ h => h) _), j2])]
      exact rf_lay_l M H hg hp hm hk d c (k + 1) v (by omega)
    · rw [if_neg hb, step 0 (by unfold mF; rw [if_neg hb]; rfl)]
      exact rf_lay_l M H hg hp hm hk d c (k + 1) v (by omega)
theorem rf_lay_o (B : jf_B f) : ∀ (c n : Nat) (h : jxH) (g : Nat → Int64), n + c = 4096 → 0 < n → MO h → ro_at h 338 f → jx_at h 382 = jxL 4096 g → (∀ j, j < n → sub (Int32.ofNat j) f.2.2 → g j = Int64.ofInt (MP f (Int32.ofNat j))) → ∃ h' g', (∀ d, jb_117 rc (d + 3) 7 [(0, .ref 336), (1, .int (Int32.ofNat n))] [] h = some (none, h')) ∧ jx_at h' 382 = jxL 4096 g' ∧ (∀ j, j < 4096 → sub (Int32.ofNat j) f.2.2 → g' j = Int64.ofInt (MP f (Int32.ofNat j))) ∧ Fr (fun x => x = 382) h h'
  | 0, n, h, g, e, hn, M, H, hg, hk => by
    obtain rfl : n = 4096 := by omega
    exact ⟨h, g, fun d => by rw [je_117_7]; rfl, hg, hk, Fr.rfl⟩
  | c + 1, n, h, g, e, hn, M, H, hg, hk => by
    have n4 : n < 4096 := by omega
    have ge : ¬ (4096 : Int32) ≤ Int32.ofNat n := by rw [show (4096 : Int32) = Int32.ofNat 4096 from rfl, jk_le (by decide) (by omega)]; omega
    by_cases hs : sub (Int32.ofNat n) f.2.2
    · have nz : Int32.ofNat n ≠ 0 := fun q => by
        have := (jk_inj (k := n) (m := 0) (by omega) (by decide)).mp q
        omega
      obtain ⟨p, hp⟩ := bc_lo (x := Int32.ofNat n) (Nat.pos_of_ne_zero fun q => nz (bc_0 (S12_of n4) q))
      obtain ⟨p1, p2, p3⟩ := lo_some.mp hp
      obtain ⟨m, m1, m2⟩ := clr_lt n4 p1 p2
      have hsm : sub (Int32.ofNat m) f.2.2 := by rw [← m2]; exact sub_clr hs _
      have val : Int64.ofInt (MP f (Int32.ofNat n)) = (f.1 p).toInt64 * g m - Int64.ofInt (js (mF f p (Int32.ofNat m)) 12) := by
        rw [MP_low f hp (S12_of n4), m2, Int64.ofInt_sub, Int64.ofInt_mul, hk m m1 hsm]
        rfl
      have j0 : js (mF f p (Int32.ofNat m)) (p + 1) = 0 := by
        rw [js_congr (h := fun _ => 0) (fun q hq => ?_), js_0]
        unfold mF
        rw [if_neg]
        rw [← m2, bt_and, bt_clr _ p1 (by omega)]
        by_cases z : q = p
        · simp [z]
        · rw [p3 q (by omega)]; simp
      obtain ⟨h', g', r1, r2, r3, r4⟩ := rf_lay_o B c (n + 1) (jx_set h 382 (jxL 4096 (vp_updL g n (Int64.ofInt (MP f (Int32.ofNat n)))))) (vp_updL g n (Int64.ofInt (MP f (Int32.ofNat n)))) (by omega) (by omega) (MO.fr Fr.one (by decide) M) (ro_fr Fr.one (by decide) H) (jk_at_self ..) (fun j hj hsj => by
        by_cases z : j = n
        · subst z; rw [updL_at]
        · rw [updL_ne _ _ z]; exact hk j (by omega) hsj)
      refine ⟨h', g', fun d => ?_, r2, r3, Fr.one.trans r4⟩
      rw [je_117_7, if_neg ge, M.g1, jk_bs, ro_0 H, jk_bs, if_pos (sub_iff.mpr hs), rf_lowest _ hp, jk_cI, M.g1, jk_bs, ro_w H p1, jk_bs, M.g6, jk_bs, hg]
      show (jx_aL (jxL 4096 g) (Int32.ofNat n &&& (jk_bit p ^^^ (-1)))).bind (fun v8 => jb_117 rc (d + 3) 48 [(0, .ref 336), (1, .int (Int32.ofNat n)), (2, .int (Int32.ofNat p)), (3, .int (Int32.ofNat n &&& (jk_bit p ^^^ (-1)))), (4, .long ((f.1 p).toInt64 * v8)), (6, .int (Int32.ofNat p + 1))] [] h) = _
      rw [m2, jk_aL (by omega) (by decide), jk_bs, jk_succ]
      have L := rf_lay_l (rc := rc) M H hg (n := n) p1 (show m < 4096 by omega) (fun j hj hsj => hk j (by omega) (fun k hk => hsm k (hsj k hk))) (d + 1) (11 - p) (p + 1) ((f.1 p).toInt64 * g m) (by omega)
      rw [j0, show Int64.ofInt 0 = (0 : Int64) from rfl, Int64.sub_zero] at L
      refine L.trans ?_
      rw [je_117_48, if_pos (by decide), M.g6, jk_bs, hg, jk_sL n4 (by decide), jk_bs, ← val, jk_succ]
      exact r1 d
    · obtain ⟨h', g', r1, r2⟩ := rf_lay_o B c (n + 1) h g (by omega) (by omega) M H hg (fun j hj hsj => by
        by_cases z : j = n
        · rw [z] at hsj; exact absurd hsj hs
        · exact hk j (by omega) hsj)
      refine ⟨h', g', fun d => ?_, r2⟩
      rw [je_117_7, if_neg ge, M.g1, jk_bs, ro_0 H, jk_bs, if_neg (fun q => hs (sub_iff.mp q)), jk_succ]
      exact r1 d
/-- layMinors() -/
theorem rf_layMinors (M : MO h) (H : ro_at h 338 f) (B : jf_B f) {g : Nat → Int64} (hg : jx_at h 382 = jxL 4096 g) : ∃ h' g', (∀ d, jx_C rc (d + 4) 117 [.ref 336] h = some (none, h')) ∧ jx_at h' 382 = jxL 4096 g' ∧ (∀ j, j < 4096 → sub (Int32.ofNat j) f.2.2 → g' j = Int64.ofInt (MP f (Int32.ofNat j))) ∧ Fr (fun x => x = 382) h h' := by
  obtain ⟨h', g', r1, r2, r3, r4⟩ := rf_lay_o (rc := rc) B 4095 1 (jx_set h 382 (jxL 4096 (vp_updL g 0 1))) (vp_updL g 0 1) (by omega) (by omega) (MO.fr Fr.one (by decide) M) (ro_fr Fr.one (by decide) H) (jk_at_self ..) (fun j hj _ => by
    obtain rfl : j = 0 := by omega
    rw [updL_at]
    show (1 : Int64) = Int64.ofInt (MP f 0)
    rw [MP_0]; rfl)
  refine ⟨h', g', fun d => ?_, r2, r3, Fr.one.trans r4⟩
  rw [je_117, if_pos M.is, M.g6, jk_bs, hg, show (0 : Int32) = Int32.ofNat 0 from rfl, jk_sL (by decide) (by decide), jk_bs]
  exact r1 d
/-- minorOf() -/
theorem rf_minorOf (M : MO h) (H : ro_at h 338 f) (B : jf_B f) {g : Nat → Int64} (hg : jx_at h 382 = jxL 4096 g) {S : Int32} (hS : S12 S) (hs : sub S f.2.2) : ∃ h' g', (∀ d, jx_C rc (d + 5) 118 [.ref 336, .int S] h = some (some (.long (Int64.ofInt (MP f S))), h')) ∧ jx_at h' 382 = jxL 4096 g' ∧ Fr (fun x => x = 382) h h' := by
  obtain ⟨h', g', r1, r2, r3, r4⟩ := rf_layMinors (rc := rc) M H B hg
  obtain ⟨n, hn, rfl⟩ := S12_nat hS
  refine ⟨h', g', fun d => ?_, r2, r4⟩
  rw [je_118, if_pos M.is, r1, jk_cV, (MO.fr r4 (by decide) M).g6, jk_bs, r2, jk_aL hn (by decide), jk_bs, r3 n hn hs]
end
