/-! feed() -/
def jy_byte (x : Int64) (k : Nat) : Int32 := ((x >>> (((8 : Int32) * Int32.ofNat k).toInt64 &&& 63)) &&& (255 : Int64)).toInt32
def jy_add (p : jP) (b : Int32) : jP := (p.1 + 1, upd p.2 p.1 b)
def jy_from (p : jP) (x : Int64) : Nat → Nat → jP
  | _, 0 => p
  | k, m + 1 => jy_from (jy_add p (jy_byte x k)) x (k + 1) m
def setP (σ : jSt) (p : jP) : jSt := (σ.1, σ.2.1, σ.2.2.1, σ.2.2.2.1, σ.2.2.2.2.1, σ.2.2.2.2.2.1, p)
def sP (σ : jSt) : jP := σ.2.2.2.2.2.2
def op_feed (σ : jSt) (x : Int64) (n : Int32) : Int32 × jSt := if n < 1 then er σ 1 else if n ≤ 8 then (if (sP σ).1 + pn n ≤ 120 then (Int32.ofNat ((sP σ).1 + pn n), setP σ (jy_from (sP σ) x 0 (pn n))) else er σ 4) else er σ 1
theorem jy_and (y : Int64) : ∃ b : Nat, b < 256 ∧ (y &&& (255 : Int64)).toInt32 = Int32.ofNat b := by
  refine ⟨(y.toBitVec &&& 255#64).toNat, ?_, ?_⟩
  · rw [BitVec.toNat_and]
    have := Nat.and_le_right (n := y.toBitVec.toNat) (m := (255#64).toNat)
    have e : (255#64).toNat = 255 := rfl
    omega
  · apply Int32.toBitVec_inj.1
    rw [Int64.toBitVec_toInt32, Int64.toBitVec_and, Int32.toBitVec_ofNat', show ((255 : Int64)).toBitVec = 255#64 from rfl]
    apply BitVec.eq_of_toNat_eq
    simp
    rw [BitVec.signExtend_eq_setWidth_of_le _ (by decide), BitVec.toNat_setWidth]
theorem upd_n {f g : Nat → Int32} {n : Nat} (e : ∀ k, k < n → f k = g k) (x : Int32) : ∀ k, k < n + 1 → upd f n x k = upd g n x k := fun k hk => by
  unfold upd
  by_cases q : k = n
  · rw [if_pos q, if_pos q]
  · rw [if_neg q, if_neg q, e k (by omega)]
theorem jy_byte_b (x : Int64) (k : Nat) : ∃ b : Nat, b < 256 ∧ jy_byte x k = Int32.ofNat b := jy_and _
theorem jy_n {n : Int32} (h1 : ¬ n < 1) (h2 : n ≤ 8) : ∃ k, 1 ≤ k ∧ k ≤ 8 ∧ n = Int32.ofNat k := by
  have h0 : ¬ n < 0 := fun q => by
    rw [Int32.lt_iff_toInt_lt] at *
    have e0 : (0 : Int32).toInt = 0 := rfl
    have e1 : (1 : Int32).toInt = 1 := rfl
    omega
  refine ⟨n.toNatClampNeg, ?_, ?_, jk_of h0⟩
  · rw [jk_of h0, show (1 : Int32) = Int32.ofNat 1 from rfl, jk_lt (jk_of_lt n) (by decide)] at h1
    omega
  · rw [jk_of h0, show (8 : Int32) = Int32.ofNat 8 from rfl, jk_le (jk_of_lt n) (by decide)] at h2
    exact h2
theorem jk_add2 (a b : Nat) : Int32.ofNat a + Int32.ofNat b = Int32.ofNat (a + b) := (Int32.ofNat_add a b).symm
theorem jy_W {p : jP} (W : p_W p) {b : Nat} (hb : b < 256) (hp : p.1 < 120) : p_W (jy_add p (Int32.ofNat b)) := by
  refine ⟨hp, fun i hi => ?_⟩
  have hi : i < p.1 + 1 := hi
  show ∃ c : Nat, c < 256 ∧ upd p.2 p.1 (Int32.ofNat b) i = Int32.ofNat c
  unfold upd
  split
  · exact ⟨b, hb, rfl⟩
  · exact W.2 i (by omega)
theorem jy_from_W (x : Int64) : ∀ (m k : Nat) (p : jP), p_W p → p.1 + m ≤ 120 → p_W (jy_from p x k m)
  | 0, k, p, W, _ => W
  | m + 1, k, p, W, l => by
    obtain ⟨b, hb, e⟩ := jy_byte_b x k
    exact jy_from_W x m (k + 1) _ (by rw [e]; exact jy_W W hb (by omega)) (show p.1 + 1 + m ≤ 120 by omega)
section
variable {rc : Nat → Nat × (Nat → Int32)} {h h' : jxH} {σ : jSt} {p : jP} {P : Nat → Prop}
theorem AWt.tape (A : AWt σ) : p_W (sP σ) := A.2.2.2.2.2
theorem aa_tape (A : AWt σ) {p' : jP} (W : p_W p') : AWt (setP σ p') := ⟨A.1, A.2.1, A.2.2.1, A.2.2.2.1, A.2.2.2.2.1, W⟩
theorem tp_is (H : tp_at h p) : jx_is (jx_at h 320) 7 = true := by rw [H.1]; rfl
theorem tp_g0 (H : tp_at h p) : jx_gR (jx_at h 320) 7 0 = some 321 := by rw [H.1]; rfl
theorem tp_g1 (H : tp_at h p) : jx_gR (jx_at h 320) 7 1 = some 322 := by rw [H.1]; rfl
theorem tp_p2 (H : tp_at h p) (x : Int32) : jx_pF (jx_at h 320) 7 2 (.int x) = some (jxO 7 [.ref 321, .ref 322, .int x]) := by rw [H.1]; rfl
theorem tp_add (H : tp_at h p) (hp : p.1 < 120) (x : Int32) : ∃ h', (∀ d, jx_C rc (d + 1) 296 [.ref 320, .int x] h = some (none, h')) ∧ tp_at h' (jy_add p x) ∧ Fr (jI 320 3) h h' := by
  obtain ⟨o, ⟨g, e, q⟩, g2, e2⟩ := id H
  have F1 : Fr (jI 320 3) h (jx_set h 321 (jxI 0 120 (upd g p.1 x))) := Fr.set ⟨by omega, by omega⟩
  have F2 : Fr (jI 320 3) h (jx_set (jx_set h 321 (jxI 0 120 (upd g p.1 x))) 320 (jxO 7 [.ref 321, .ref 322, .int (Int32.ofNat (p.1 + 1))])) := F1.cons ⟨by omega, by omega⟩
  refine ⟨_, fun d => ?_, ⟨jk_at_self .., ⟨upd g p.1 x, (jk_at_ne _ _ (by decide)).trans (jk_at_self ..), upd_n q x⟩, g2, ?_⟩, F2⟩
  · rw [je_296, if_pos (tp_is H), tp_len H, jk_bs, if_neg (jk_nn (by omega)), jk_bs, if_neg (by rw [show (120 : Int32) = Int32.ofNat 120 from rfl, jk_le (by decide) (by omega)]; omega), tp_g0 H, jk_bs, jk_bs, e, jk_sI hp (by decide), jk_bs, jk_at_ne _ _ (by decide), tp_len H, jk_bs, tp_p2 H, jk_bs, jk_succ]; rfl
  · rw [jk_at_ne _ _ (by decide), jk_at_ne _ _ (by decide)]; exact e2
theorem cc_tp {p' : jP} (C : CSt h σ) (A : AWt σ) (F : Fr (jI 320 3) h h') (S : tp_at h' p') : CSt h' (setP σ p') ∧ cF h h' :=
  ⟨CS_tape A.tr.2.1 C F (fun x q => ⟨q.1, by have := q.2; omega⟩) S, cF.of F (fun x q => by have := q.2; omega)⟩
theorem cc_feed_l (x : Int64) {n : Nat} (hn : n ≤ 8) : ∀ (m k : Nat) (h : jxH) (σ : jSt), k + m = n → (sP σ).1 + m ≤ 120 → CSt h σ → AWt σ → ∃ h', (∀ d, jb_25 rc (d + 1) 23 [(0, .ref 0), (1, .long x), (3, .int (Int32.ofNat n)), (4, .int (Int32.ofNat k))] [] h = some (some (.int (Int32.ofNat ((sP σ).1 + m))), h')) ∧ CSt h' (setP σ (jy_from (sP σ) x k m)) ∧ cF h h' ∧ h'.1 = h.1 ∧ h'.2.1 = h.2.1
  | 0, k, h, σ, e, l, C, A => by
    refine ⟨h, fun d => ?_, C, cFid, rfl, rfl⟩
    rw [je_25_23, if_pos (by rw [jk_le (by omega) (by omega)]; omega), C.g10, jk_bs, tp_len C.tp, jk_bs]
    rfl
  | m + 1, k, h, σ, e, l, C, A => by
    obtain ⟨h1, r1, r2, r3⟩ := tp_add (rc := rc) C.tp (show σ.2.2.2.2.2.2.1 < 120 by unfold sP at l; omega) (jy_byte x k)
    obtain ⟨C1, F1⟩ := cc_tp C A r3 r2
    obtain ⟨b, hb, eb⟩ := jy_byte_b x k
    have A1 : AWt (setP σ (jy_add σ.2.2.2.2.2.2 (jy_byte x k))) := aa_tape A (by rw [eb]; exact jy_W A.tape hb (show σ.2.2.2.2.2.2.1 < 120 by unfold sP at l; omega))
    obtain ⟨h2, s1, s2, s3, s4, s5⟩ := cc_feed_l x hn m (k + 1) h1 (setP σ (jy_add σ.2.2.2.2.2.2 (jy_byte x k))) (by omega) (show σ.2.2.2.2.2.2.1 + 1 + m ≤ 120 by unfold sP at l; omega) C1 A1
    have ee : (sP (setP σ (jy_add σ.2.2.2.2.2.2 (jy_byte x k)))).1 + m = (sP σ).1 + (m + 1) := by
      show σ.2.2.2.2.2.2.1 + 1 + m = σ.2.2.2.2.2.2.1 + (m + 1)
      omega
    refine ⟨h2, fun d => ?_, s2, F1.trans0 ⟨r3.1, r3.2.1⟩ s3, s4.trans r3.1, s5.trans r3.2.1⟩
    rw [je_25_23, if_neg (by rw [jk_le (by omega) (by omega)]; omega), C.g10, jk_bs]
    have := r1 d
    unfold jy_byte at this
    rw [this, jk_cV, jk_succ, s1, ee]
theorem cc_feed (C : CSt h σ) (A : AWt σ) (x : Int64) (n : Int32) : ∃ h', (∀ d, jx_C rc (d + 20) 25 [.ref 0, .long x, .int n] h = some (some (.int (op_feed σ x n).1), h')) ∧ CSt h' (op_feed σ x n).2 ∧ cF h h' := by
  unfold op_feed
  obtain ⟨e', e1, e2, e3⟩ := cc_refuse (rc := rc) C A (k := 1) (by decide) (by decide) (K := 1) rfl
  have l120 := A.tape.1
  by_cases c1 : n < 1
  · rw [if_pos c1]
    refine ⟨e', fun d => ?_, e2, e3⟩
    rw [je_25, if_pos C.is, if_pos c1, e1, jk_cI]
  rw [if_neg c1]
  by_cases c2 : n ≤ 8
  · rw [if_pos c2]
    obtain ⟨k, k1, k8, rfl⟩ := jy_n c1 c2
    rw [show pn (Int32.ofNat k) = k from jk_cl (by omega)]
    have st : ∀ d, jx_C rc (d + 20) 25 [.ref 0, .long x, .int (Int32.ofNat k)] h = _ := fun d => by
      rw [je_25, if_pos C.is, if_neg c1, if_pos c2, C.g10, jk_bs, tp_len C.tp, jk_bs, jk_add2]
    have lt : (Int32.ofNat (σ.2.2.2.2.2.2.1 + k) ≤ 120) ↔ (sP σ).1 + k ≤ 120 := by
      unfold sP at *
      rw [show (120 : Int32) = Int32.ofNat 120 from rfl, jk_le (by omega) (by decide)]
    by_cases c3 : (sP σ).1 + k ≤ 120
    · rw [if_pos c3]
      obtain ⟨h2, s1, s2, s3, -, -⟩ := cc_feed_l (rc := rc) x k8 k 0 h σ (by omega) c3 C A
      refine ⟨h2, fun d => ?_, s2, s3⟩
      rw [st d, if_pos (lt.mpr c3)]
      exact s1 _
    · rw [if_neg c3]
      obtain ⟨f', f1, f2, f3⟩ := cc_refuse (rc := rc) C A (k := 4) (by decide) (by decide) (K := 4) rfl
      refine ⟨f', fun d => ?_, f2, f3⟩
      rw [st d, if_neg (fun q => c3 (lt.mp q)), f1, jk_cI]
  · rw [if_neg c2]
    refine ⟨e', fun d => ?_, e2, e3⟩
    rw [je_25, if_pos C.is, if_neg c1, if_neg c2, e1, jk_cI]
theorem aa_feed (A : AWt σ) (x : Int64) (n : Int32) : AWt (op_feed σ x n).2 := by
  unfold op_feed
  split
  · exact aa_er A
  · split
    · split
      · exact aa_tape A (jy_from_W x _ _ _ A.tape (by assumption))
      · exact aa_er A
    · exact aa_er A
-- the reference
theorem RSt.tape (R : RSt h σ) : m_tape h (sP σ) := R.2.2.2.2.2.2.2.2.1
theorem RSt.g10 (R : RSt h σ) : jx_gR (jx_at h 336) 12 10 = some 398 := R.M.g 10 398 (by intros; rfl)
theorem RS_tape {p' : jP} (R : RSt h σ) (A : AWt σ) (F : Fr P h h') (hP : ∀ x, P x → x = 336 ∨ x = 398) (hO : ∃ a b c d f g k l : Int32, jx_at h' 336 = m_obj (Int32.ofNat σ.2.1.1) (Int32.ofNat σ.2.1.2.1) (Int32.ofNat p'.1) a b c d (Int32.ofNat (sC σ).1) f g k l (jk_b σ.2.2.2.2.2.1.isSome) ∧ (σ.2.2.2.2.2.1.isSome = true → l = Int32.ofNat (im_n σ.2.2.2.2.2.1))) (S : m_tape h' p') : RSt h' (setP σ p') ∧ rF h h' := by
  have n : ∀ x, ¬ (x = 336 ∨ x = 398) → ¬ P x := fun x a b => a (hP x b)
  obtain ⟨-, r1, r2, r3, r4, r5, r6, r7, r8, r9⟩ := R
  exact ⟨⟨hO, mtold_fr F (n _ (by omega)) r1, ro_fr F (n _ (by omega)) r2, mtr_fr F (fun x _ _ => n _ (by omega)) A.tr.2.1 r3, msh_fr F (fun x _ _ => n _ (by omega)) r4, mss_fr F (fun x _ _ => n _ (by omega)) r5, mcrew_fr F (n _ (by omega)) r6, mim_fr F (n _ (by omega)) (n _ (by omega)) r7, S, mscr_fr F (fun x q => n _ (by unfold m_scrP at q; omega)) r9⟩, F.mono fun x q => by have := hP x q; omega⟩
theorem mo_g10 (a1 a2 a3 a4 a5 a6 a7 a8 a9 a10 a11 a12 a13 : Int32) : jx_gR (m_obj a1 a2 a3 a4 a5 a6 a7 a8 a9 a10 a11 a12 a13) 12 10 = some 398 := rfl
theorem mo_g11 (a1 a2 a3 a4 a5 a6 a7 a8 a9 a10 a11 a12 a13 : Int32) : jx_gI (m_obj a1 a2 a3 a4 a5 a6 a7 a8 a9 a10 a11 a12 a13) 12 11 = some a3 := rfl
theorem mo_p11 (x a1 a2 a3 a4 a5 a6 a7 a8 a9 a10 a11 a12 a13 : Int32) : jx_pF (m_obj a1 a2 a3 a4 a5 a6 a7 a8 a9 a10 a11 a12 a13) 12 11 (.int x) = some (m_obj a1 a2 x a4 a5 a6 a7 a8 a9 a10 a11 a12 a13) := rfl
theorem rr_feed_l (x : Int64) {n : Nat} (hn : n ≤ 8) : ∀ (m k : Nat) (h : jxH) (σ : jSt), k + m = n → (sP σ).1 + m ≤ 120 → RSt h σ → AWt σ → ∃ h', (∀ d, jb_154 rc (d + 1) 22 [(0, .ref 336), (1, .long x), (3, .int (Int32.ofNat n)), (4, .int (Int32.ofNat k))] [] h = some (some (.int (Int32.ofNat ((sP σ).1 + m))), h')) ∧ RSt h' (setP σ (jy_from (sP σ) x k m)) ∧ rF h h'
  | 0, k, h, σ, e, l, R, A => by
    refine ⟨h, fun d => ?_, R, Fr.rfl⟩
    rw [je_154_22, if_pos (by rw [jk_le (by omega) (by omega)]; omega), R.taped, jk_bs]
    rfl
  | m + 1, k, h, σ, e, l, R, A => by
    have l' : σ.2.2.2.2.2.2.1 < 120 := by unfold sP at l; omega
    obtain ⟨⟨a, b, c, d', ee, f, g, kk, o, o'⟩, -⟩ := id R
    obtain ⟨G, g1, g2⟩ := R.tape
    obtain ⟨b', hb, eb⟩ := jy_byte_b x k
    have A1 : AWt (setP σ (jy_add σ.2.2.2.2.2.2 (jy_byte x k))) := aa_tape A (by rw [eb]; exact jy_W A.tape hb l')
    have F1 : Fr (fun x => x = 398) h (jx_set h 398 (jxI 0 120 (upd G σ.2.2.2.2.2.2.1 (jy_byte x k)))) := Fr.one
    have F2 : Fr (fun x => x = 336) (jx_set h 398 (jxI 0 120 (upd G σ.2.2.2.2.2.2.1 (jy_byte x k)))) (jx_set (jx_set h 398 (jxI 0 120 (upd G σ.2.2.2.2.2.2.1 (jy_byte x k)))) 336 (m_obj (Int32.ofNat σ.2.1.1) (Int32.ofNat σ.2.1.2.1) (Int32.ofNat (σ.2.2.2.2.2.2.1 + 1)) a b c d' (Int32.ofNat (sC σ).1) ee f g kk (jk_b σ.2.2.2.2.2.1.isSome))) := Fr.one
    obtain ⟨R1, Q1⟩ := RS_tape (p' := jy_add σ.2.2.2.2.2.2 (jy_byte x k)) R A ((F1.mono fun x q => Or.inr q).trans (F2.mono fun x q => Or.inl q)) (fun x q => q) ⟨a, b, c, d', ee, f, g, kk, jk_at_self .., o'⟩ ⟨_, (F2.2.2 398 (by decide)).trans (jk_at_self ..), upd_n g2 _⟩
    obtain ⟨h2, s1, s2, s3⟩ := rr_feed_l x hn m (k + 1) _ (setP σ (jy_add σ.2.2.2.2.2.2 (jy_byte x k))) (by omega) (show σ.2.2.2.2.2.2.1 + 1 + m ≤ 120 by unfold sP at l; omega) R1 A1
    refine ⟨h2, fun d => ?_, s2, Q1.trans s3⟩
    have oo : ∀ x, jx_at (jx_set h 398 x) 336 = _ := fun x => (jk_at_ne _ _ (by decide)).trans o
    have eq : (sP (setP σ (jy_add σ.2.2.2.2.2.2 (jy_byte x k)))).1 + m = (sP σ).1 + (m + 1) := by
      show σ.2.2.2.2.2.2.1 + 1 + m = σ.2.2.2.2.2.2.1 + (m + 1)
      omega
    rw [je_154_22, if_neg (by rw [jk_le (by omega) (by omega)]; omega), o, mo_g10, jk_bs, mo_g11, jk_bs, g1, jk_sI l' (by decide), jk_bs, oo, mo_g11, jk_bs, jk_succ, mo_p11, jk_bs, jk_succ]
    refine (s1 d).trans ?_
    rw [eq]
theorem rr_feed (R : RSt h σ) (A : AWt σ) (x : Int64) (n : Int32) : ∃ h', (∀ d, jx_C rc (d + 20) 154 [.ref 336, .long x, .int n] h = some (some (.int (op_feed σ x n).1), h')) ∧ RSt h' (op_feed σ x n).2 ∧ rF h h' := by
  unfold op_feed
  obtain ⟨e', e1, e2, e3⟩ := rr_error (rc := rc) R A (k := 1) (by decide) (K := 1) rfl
  have l120 := A.tape.1
  have bt1 : jp_bt n.toInt64 1 8 = if n < 1 then false else if 8 < n then false else true := by
    unfold jp_bt
    rw [show (1 : Int64) = (1 : Int32).toInt64 from rfl, show (8 : Int64) = (8 : Int32).toInt64 from rfl]
    simp only [jk_l64]
  by_cases c1 : n < 1
  · rw [if_pos c1]
    refine ⟨e', fun d => ?_, e2, e3⟩
    rw [je_154, if_pos R.is, rf_in, jk_cI, jk_if0, bt1, if_pos c1, if_neg (by decide), e1, jk_cI]
  rw [if_neg c1]
  by_cases c2 : n ≤ 8
  · rw [if_pos c2]
    have c2' : ¬ 8 < n := fun z => by rw [Int32.lt_iff_toInt_lt] at z; rw [Int32.le_iff_toInt_le] at c2; omega
    obtain ⟨k, k1, k8, rfl⟩ := jy_n c1 c2
    rw [show pn (Int32.ofNat k) = k from jk_cl (by omega)]
    have st : ∀ d, jx_C rc (d + 20) 154 [.ref 336, .long x, .int (Int32.ofNat k)] h = _ := fun d => by
      rw [je_154, if_pos R.is, rf_in, jk_cI, jk_if0, bt1, if_neg c1, if_neg c2', if_pos rfl, R.taped, jk_bs, jk_add2]
    have lt : (Int32.ofNat (σ.2.2.2.2.2.2.1 + k) ≤ 120) ↔ (sP σ).1 + k ≤ 120 := by
      unfold sP at *
      rw [show (120 : Int32) = Int32.ofNat 120 from rfl, jk_le (by omega) (by decide)]
    by_cases c3 : (sP σ).1 + k ≤ 120
    · rw [if_pos c3]
      obtain ⟨h2, s1, s2, s3⟩ := rr_feed_l (rc := rc) x k8 k 0 h σ (by omega) c3 R A
      refine ⟨h2, fun d => ?_, s2, s3⟩
      rw [st d, if_pos (lt.mpr c3)]
      exact s1 _
    · rw [if_neg c3]
      obtain ⟨f', f1, f2, f3⟩ := rr_error (rc := rc) R A (k := 4) (by decide) (K := 4) rfl
      refine ⟨f', fun d => ?_, f2, f3⟩
      rw [st d, if_neg (fun q => c3 (lt.mp q)), f1, jk_cI]
  · rw [if_neg c2]
    have c2' : 8 < n := by rw [Int32.lt_iff_toInt_lt]; rw [Int32.le_iff_toInt_le] at c2; omega
    refine ⟨e', fun d => ?_, e2, e3⟩
    rw [je_154, if_pos R.is, rf_in, jk_cI, jk_if0, bt1, if_neg c1, if_pos c2', if_neg (by decide), e1, jk_cI]
end
