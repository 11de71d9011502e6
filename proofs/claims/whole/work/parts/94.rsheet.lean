/-! SHEETS: the reference; number(), put(), sheet() -/
theorem jp_bt_size {n : Nat} (hn : n ≤ 24) (i : Int32) : jp_bt i.toInt64 0 ((Int32.ofNat n).toInt64 - 1) = if i < 0 then false else if Int32.ofNat n ≤ i then false else true := by
  unfold jp_bt
  have k0 : (i.toInt64 < 0) ↔ i < 0 := by rw [show (0 : Int64) = (0 : Int32).toInt64 from rfl, jk_l64]
  have k : ((Int32.ofNat n).toInt64 - 1 < i.toInt64) ↔ Int32.ofNat n ≤ i := by
    rw [Int64.lt_iff_toInt_lt, Int32.le_iff_toInt_le, Int64.toInt_sub, Int32.toInt_toInt64, Int32.toInt_toInt64, jk_int (by omega), show (1 : Int64).toInt = 1 from by decide]
    have := Int32.le_toInt i
    have := Int32.toInt_lt i
    rw [Int.bmod_eq_of_le (by omega) (by omega)]
    omega
  by_cases c1 : i < 0
  · rw [if_pos c1, if_pos (k0.mpr c1)]
  · rw [if_neg c1, if_neg (fun z => c1 (k0.mp z))]
    by_cases c2 : Int32.ofNat n ≤ i
    · rw [if_pos c2, if_pos (k.mpr c2)]
    · rw [if_neg c2, if_neg (fun z => c2 (k.mp z))]
theorem jk_24 (i j : Nat) : (24 : Int32) * Int32.ofNat i + Int32.ofNat j = Int32.ofNat (24 * i + j) := by
  rw [Int32.ofNat_add, Int32.ofNat_mul]; rfl
section
variable {rc : Nat → Nat × (Nat → Int32)} {h h' : jxH} {σ : jSt} {P : Nat → Prop} {e : jSh} {j : Nat}
theorem RS_ss {ss' : jE} (R : RSt h σ) (A : AWt σ) (F : Fr P h h') (hP : ∀ x, P x → 445 ≤ x ∧ x < 449) (S : m_ss h' ss') : RSt h' (setE σ ss') ∧ rF h h' := by
  have n : ∀ x, ¬ (445 ≤ x ∧ x < 449) → ¬ P x := fun x a b => a (hP x b)
  obtain ⟨r0, r1, r2, r3, r4, r5, r6, r7, r8, r9⟩ := R
  obtain ⟨a, b, c, d, ee, f, g, k, o, o'⟩ := r0
  exact ⟨⟨⟨a, b, c, d, ee, f, g, k, (F.2.2 _ (n _ (by omega))).trans o, o'⟩, mtold_fr F (n _ (by omega)) r1, ro_fr F (n _ (by omega)) r2, mtr_fr F (fun x _ _ => n _ (by omega)) A.tr.2.1 r3, msh_fr F (fun x _ _ => n _ (by omega)) r4, S, mcrew_fr F (n _ (by omega)) r6, mim_fr F (n _ (by omega)) (n _ (by omega)) r7, mtape_fr F (n _ (by omega)) r8, mscr_fr F (fun x q => n _ (by unfold m_scrP at q; omega)) r9⟩, F.mono fun x q => by have := hP x q; omega⟩
theorem RSt.ss (R : RSt h σ) : m_ss h (sE σ) := R.2.2.2.2.2.1
theorem RSt.g32 (R : RSt h σ) : jx_gR (jx_at h 336) 12 32 = some 445 := R.M.g 32 445 (by intros; rfl)
theorem RSt.g33 (R : RSt h σ) : jx_gR (jx_at h 336) 12 33 = some 446 := R.M.g 33 446 (by intros; rfl)
theorem RSt.g34 (R : RSt h σ) : jx_gR (jx_at h 336) 12 34 = some 447 := R.M.g 34 447 (by intros; rfl)
theorem RSt.g35 (R : RSt h σ) : jx_gR (jx_at h 336) 12 35 = some 448 := R.M.g 35 448 (by intros; rfl)
theorem RSt.bits (R : RSt h σ) (hj : j < 4) : jx_aI (jx_at h 445) 0 (Int32.ofNat j) = some (e_bits (sE σ j)) := by
  obtain ⟨⟨B, b1, b2⟩, -⟩ := R.ss
  rw [b1, jk_aI hj (by decide), b2 j hj]
theorem RSt.size (R : RSt h σ) (hj : j < 4) : jx_aI (jx_at h 446) 0 (Int32.ofNat j) = some (Int32.ofNat (e_size (sE σ j))) := by
  obtain ⟨-, ⟨B, b1, b2⟩, -⟩ := R.ss
  rw [b1, jk_aI hj (by decide), b2 j hj]
theorem RSt.num (R : RSt h σ) (A : AWt σ) (hj : j < 4) (he : sE σ j = some e) {k : Nat} (hk : k < e.2.1) : jx_aI (jx_at h 447) 0 (24 * Int32.ofNat j + Int32.ofNat k) = some (e.2.2 k) := by
  obtain ⟨-, -, ⟨B, b1, b2⟩, -⟩ := R.ss
  have := (A.ss j e hj he).2
  rw [b1, jk_24, jk_aI (by omega) (by decide), b2 j e k hj he hk]
theorem ss_b0 (A : AWt σ) (hj : j < 4) (he : sE σ j = some e) : ¬ e_bits (sE σ j) = 0 := by
  rw [he]
  show ¬ e.1 = 0
  rcases (A.ss j e hj he).1 with z | z | z <;> rw [z] <;> decide
/-- lacks() -/
def jq_lacks (σ : jSt) (k i : Int32) : Nat := if jp_four k = true then (match sE σ (pn k) with
  | some e => if jq_shas e i = true then 0 else 1
  | none => 7) else 1
theorem rr_lacks (R : RSt h σ) (A : AWt σ) (k i : Int32) (d : Nat) : jx_C rc (d + 3) 194 [.ref 336, .int k, .int i] h = some (some (.int (Int32.ofNat (jq_lacks σ k i))), h) := by
  unfold jq_lacks
  rw [je_194, if_pos R.is, rf_four, jk_cI, jk_if0]
  by_cases c0 : jp_four k = true
  · rw [if_pos c0, if_pos c0]
    obtain ⟨j, hj, rfl⟩ := jp_four_iff.mp c0
    rw [pn_4 hj, R.g32, jk_bs, R.bits hj, jk_bs]
    cases he : sE σ j with
    | none => rw [if_pos (show e_bits none = 0 from rfl)]; rfl
    | some e =>
      have b0 := ss_b0 A hj he
      rw [he] at b0
      have hn := (A.ss j e hj he).2
      dsimp only
      rw [if_neg b0, R.g33, jk_bs, R.size hj, jk_bs, he, show e_size (some e) = e.2.1 from rfl, rf_in, jk_cI, jk_if0, jp_bt_size hn]
      show (if jq_shas e i = true then _ else _) = _
      by_cases c1 : jq_shas e i = true
      · rw [if_pos c1, if_pos c1]; rfl
      · rw [if_neg c1, if_neg c1]; rfl
  · rw [if_neg c0, if_neg c0]; rfl
theorem mss_wr {k : Nat} {v : Int32} {B : Nat → Int32} (hj : j < 4) (W : ss_W (sE σ)) (he : sE σ j = some e) (hk : k < e.2.1) (H : m_ss h (sE σ)) (e1 : jx_at h 447 = jxI 0 96 B) (F : Fr (fun x => x = 447) h h') (G : jx_at h' 447 = jxI 0 96 (upd B (24 * j + k) (jq_cut e.1 v))) : m_ss h' (va_up (sE σ) j (some (jq_wr e k v))) := by
  obtain ⟨⟨B1, a1, a2⟩, ⟨B2, b1, b2⟩, ⟨B3, c1, c2⟩, ⟨B4, d1⟩⟩ := H
  have kk : ∀ x, x ≠ 447 → jx_at h' x = jx_at h x := fun x hx => F.2.2 x hx
  obtain rfl : B3 = B := by
    rw [c1] at e1
    unfold jxI at e1
    injection e1 with e1
    injection e1 with e1
    injection e1 with _ e1
    injection e1 with _ e1
    injection e1
  refine ⟨⟨B1, (kk _ (by decide)).trans a1, fun i hi => ?_⟩, ⟨B2, (kk _ (by decide)).trans b1, fun i hi => ?_⟩, ⟨_, G, fun i e' k' hi q hk' => ?_⟩, B4, (kk _ (by decide)).trans d1⟩
  · unfold va_up
    split
    · rename_i z; subst z; rw [a2 i hi, he]; rfl
    · exact a2 i hi
  · unfold va_up
    split
    · rename_i z; subst z; rw [b2 i hi, he]; rfl
    · exact b2 i hi
  · have l1 := (W j e hj he).2
    unfold va_up at q
    by_cases z : i = j
    · rw [if_pos z] at q
      cases q
      subst z
      show upd B3 (24 * i + k) (jq_cut e.1 v) (24 * i + k') = upd e.2.2 k (jq_cut e.1 v) k'
      unfold upd
      by_cases w : k' = k
      · rw [if_pos w, if_pos (by omega)]
      · rw [if_neg w, if_neg (by omega)]
        exact c2 i e k' hi he hk'
    · rw [if_neg z] at q
      have l2 := (W i e' hi q).2
      show upd B3 (24 * j + k) (jq_cut e.1 v) (24 * i + k') = e'.2.2 k'
      unfold upd
      rw [if_neg (by omega)]
      exact c2 i e' k' hi q hk'
theorem rr_lays (R : RSt h σ) (A : AWt σ) (hj : j < 4) (he : sE σ j = some e) {k : Nat} (hk : k < e.2.1) (v : Int32) : ∃ h', (∀ d, jx_C rc (d + 1) 195 [.ref 336, .int (Int32.ofNat j), .int (Int32.ofNat k), .int v] h = some (none, h')) ∧ RSt h' (setE σ (va_up (sE σ) j (some (jq_wr e k v)))) ∧ rF h h' := by
  obtain ⟨-, -, ⟨B, b1, b2⟩, -⟩ := id R.ss
  have l := (A.ss j e hj he).2
  have F : Fr (fun x => x = 447) h (jx_set h 447 (jxI 0 96 (upd B (24 * j + k) (jq_cut e.1 v)))) := Fr.one
  obtain ⟨R1, F1⟩ := RS_ss R A F (fun x q => by omega) (mss_wr hj A.ss he hk R.ss b1 F (jk_at_self ..))
  refine ⟨_, fun d => ?_, R1, F1⟩
  rw [je_195, if_pos R.is, R.g32, jk_bs, R.bits hj, jk_bs, R.g34, jk_bs, he, show e_bits (some e) = e.1 from rfl, b1, jk_24]
  unfold jq_cut
  by_cases c8 : e.1 = 8
  · rw [if_pos c8, jk_sI (by omega) (by decide), jk_bs, if_pos c8]
  rw [if_neg c8, if_neg c8]
  by_cases c16 : e.1 = 16
  · rw [if_pos c16, jk_sI (by omega) (by decide), jk_bs, if_pos c16]
  · rw [if_neg c16, jk_sI (by omega) (by decide), jk_bs, if_neg c16]
theorem rr_number (R : RSt h σ) (A : AWt σ) (k i : Int32) : ∃ h', (∀ d, jx_C rc (d + 20) 197 [.ref 336, .int k, .int i] h = some (some (.int (op_number σ k i).1), h')) ∧ RSt h' (op_number σ k i).2 ∧ rF h h' := by
  have st : ∀ d, jx_C rc (d + 20) 197 [.ref 336, .int k, .int i] h = _ := fun d => by
    rw [je_197, if_pos R.is, rr_lacks R A, jk_cI]
  unfold op_number
  obtain ⟨e', e1, e2, e3⟩ := rr_error (rc := rc) R A (k := 1) (by decide) (K := 1) rfl
  by_cases c0 : jp_four k = true
  · rw [if_pos c0]
    obtain ⟨j, hj, rfl⟩ := jp_four_iff.mp c0
    rw [pn_4 hj]
    cases he : sE σ j with
    | none =>
      have lz : jq_lacks σ (Int32.ofNat j) i = 7 := by unfold jq_lacks; rw [if_pos c0, pn_4 hj, he]
      obtain ⟨f', f1, f2, f3⟩ := rr_error (rc := rc) R A (k := 7) (by decide) (K := 7) rfl
      refine ⟨f', fun d => ?_, f2, f3⟩
      rw [st d, lz, if_neg (by decide), show Int32.ofNat 7 = 7 from rfl, f1, jk_cI]
    | some e =>
      have hn := (A.ss j e hj he).2
      dsimp only
      have lz : jq_lacks σ (Int32.ofNat j) i = if jq_shas e i = true then 0 else 1 := by unfold jq_lacks; rw [if_pos c0, pn_4 hj, he]
      by_cases c1 : jq_shas e i = true
      · rw [if_pos c1] at lz
        rw [if_pos c1]
        obtain ⟨m, hm, rfl⟩ := (jq_shas_iff hn).mp c1
        rw [show pn (Int32.ofNat m) = m from jk_cl (by omega)]
        refine ⟨h, fun d => ?_, R, Fr.rfl⟩
        rw [st d, lz, if_pos (by decide), R.g34, jk_bs, R.num A hj he hm, jk_bs]
      · rw [if_neg c1] at lz
        rw [if_neg c1]
        refine ⟨e', fun d => ?_, e2, e3⟩
        rw [st d, lz, if_neg (by decide), show Int32.ofNat 1 = 1 from rfl, e1, jk_cI]
  · rw [if_neg c0]
    have lz : jq_lacks σ k i = 1 := by unfold jq_lacks; rw [if_neg c0]
    refine ⟨e', fun d => ?_, e2, e3⟩
    rw [st d, lz, if_neg (by decide), show Int32.ofNat 1 = 1 from rfl, e1, jk_cI]
theorem rr_put (R : RSt h σ) (A : AWt σ) (k i v : Int32) : ∃ h', (∀ d, jx_C rc (d + 20) 196 [.ref 336, .int k, .int i, .int v] h = some (some (.int (op_put σ k i v).1), h')) ∧ RSt h' (op_put σ k i v).2 ∧ rF h h' := by
  have st : ∀ d, jx_C rc (d + 20) 196 [.ref 336, .int k, .int i, .int v] h = _ := fun d => by
    rw [je_196, if_pos R.is, rr_lacks R A, jk_cI]
  unfold op_put
  obtain ⟨e', e1, e2, e3⟩ := rr_error (rc := rc) R A (k := 1) (by decide) (K := 1) rfl
  by_cases c0 : jp_four k = true
  · rw [if_pos c0]
    obtain ⟨j, hj, rfl⟩ := jp_four_iff.mp c0
    rw [pn_4 hj]
    cases he : sE σ j with
    | none =>
      have lz : jq_lacks σ (Int32.ofNat j) i = 7 := by unfold jq_lacks; rw [if_pos c0, pn_4 hj, he]
      obtain ⟨f', f1, f2, f3⟩ := rr_error (rc := rc) R A (k := 7) (by decide) (K := 7) rfl
      refine ⟨f', fun d => ?_, f2, f3⟩
      rw [st d, lz, if_neg (by decide), show Int32.ofNat 7 = 7 from rfl, f1, jk_cI]
    | some e =>
      have hn := (A.ss j e hj he).2
      dsimp only
      have lz : jq_lacks σ (Int32.ofNat j) i = if jq_shas e i = true then 0 else 1 := by unfold jq_lacks; rw [if_pos c0, pn_4 hj, he]
      by_cases c1 : jq_shas e i = true
      · rw [if_pos c1] at lz
        rw [if_pos c1]
        obtain ⟨m, hm, rfl⟩ := (jq_shas_iff hn).mp c1
        rw [show pn (Int32.ofNat m) = m from jk_cl (by omega)]
        obtain ⟨h1, r1, r2, r3⟩ := rr_lays (rc := rc) R A hj he hm v
        refine ⟨h1, fun d => ?_, r2, r3⟩
        rw [st d, lz, if_pos (by decide), r1, jk_cV]
      · rw [if_neg c1] at lz
        rw [if_neg c1]
        refine ⟨e', fun d => ?_, e2, e3⟩
        rw [st d, lz, if_neg (by decide), show Int32.ofNat 1 = 1 from rfl, e1, jk_cI]
  · rw [if_neg c0]
    have lz : jq_lacks σ k i = 1 := by unfold jq_lacks; rw [if_neg c0]
    refine ⟨e', fun d => ?_, e2, e3⟩
    rw [st d, lz, if_neg (by decide), show Int32.ofNat 1 = 1 from rfl, e1, jk_cI]
theorem rr_nought_l (hj : j < 4) (o : jx_gR (jx_at h 336) 12 34 = some 447) : ∀ (m k : Nat) (B : Nat → Int32) (h1 : jxH), k + m = 24 → jx_at h1 336 = jx_at h 336 → jx_at h1 447 = jxI 0 96 B → ∃ B' h', (∀ d, jb_193 rc d 51 [(0, .ref 336), (1, .int (Int32.ofNat j)), (4, .int (Int32.ofNat k))] [] h1 = some (some (.int 1), h')) ∧ jx_at h' 447 = jxI 0 96 B' ∧ Fr (fun x => x = 447) h1 h' ∧ (∀ t, k ≤ t → t < 24 → B' (24 * j + t) = 0) ∧ ∀ i, ¬ (24 * j + k ≤ i ∧ i < 24 * j + 24) → B' i = B i
  | 0, k, B, h1, e, _, g => by
    obtain rfl : k = 24 := by omega
    refine ⟨B, h1, fun d => ?_, g, Fr.rfl, fun t h1 h2 => by omega, fun i _ => rfl⟩
    rw [je_193_51, if_pos (by decide)]
  | m + 1, k, B, h1, e, o1, g => by
    obtain ⟨B', h', r1, r2, r3, r4, r5⟩ := rr_nought_l hj o m (k + 1) (upd B (24 * j + k) 0) (jx_set h1 447 (jxI 0 96 (upd B (24 * j + k) 0))) (by omega) ((jk_at_ne _ _ (by decide)).trans o1) (jk_at_self ..)
    refine ⟨B', h', fun d => ?_, r2, Fr.one.trans r3, fun t q1 q2 => ?_, fun i q => ?_⟩
    · rw [je_193_51, if_neg (by rw [show (24 : Int32) = Int32.ofNat 24 from rfl, jk_le (by decide) (by omega)]; omega), o1, o, jk_bs, g, jk_24, jk_sI (by omega) (by decide), jk_bs, jk_succ, r1]
    · by_cases z : t = k
      · subst z
        rw [r5 _ (by omega)]
        unfold upd
        rw [if_pos rfl]
      · exact r4 t (by omega) q2
    · rw [r5 i (by omega)]
      unfold upd
      rw [if_neg (by omega)]
/-- what sheet() lays -/
theorem rr_sh_lay (R : RSt h σ) (A : AWt σ) (hj : j < 4) {en : Option jSh} {b n : Int32} (hb : b = e_bits en) (hs : n = Int32.ofNat (e_size en)) (hz : ∀ e, en = some e → (e.2.1 ≤ 24 ∧ ∀ i, e.2.2 i = 0)) : ∃ B1 B2 h', jx_at h 445 = jxI 0 4 B1 ∧ jx_at h 446 = jxI 0 4 B2 ∧ (∀ d, jb_193 rc d 51 [(0, .ref 336), (1, .int (Int32.ofNat j)), (4, .int 0)] [] (jx_set (jx_set h 445 (jxI 0 4 (upd B1 j b))) 446 (jxI 0 4 (upd B2 j n))) = some (some (.int 1), h')) ∧ RSt h' (setE σ (va_up (sE σ) j en)) ∧ rF h h' := by
  obtain ⟨⟨B1, a1, a2⟩, ⟨B2, b1, b2⟩, ⟨B3, c1, c2⟩, ⟨B4, d1⟩⟩ := id R.ss
  have F1 : Fr (fun x => x = 445) h (jx_set h 445 (jxI 0 4 (upd B1 j b))) := Fr.one
  have F2 : Fr (fun x => x = 446) (jx_set h 445 (jxI 0 4 (upd B1 j b))) (jx_set (jx_set h 445 (jxI 0 4 (upd B1 j b))) 446 (jxI 0 4 (upd B2 j n))) := Fr.one
  obtain ⟨B', h', r1, r2, r3, r4, r5⟩ := rr_nought_l (rc := rc) hj R.g34 24 0 B3 (jx_set (jx_set h 445 (jxI 0 4 (upd B1 j b))) 446 (jxI 0 4 (upd B2 j n))) (by omega) ((F2.2.2 _ (by decide)).trans (F1.2.2 _ (by decide))) ((F2.2.2 _ (by decide)).trans ((F1.2.2 _ (by decide)).trans c1))
  have F : Fr (fun x => 445 ≤ x ∧ x < 449) h h' := ((F1.mono fun x q => by omega).trans (F2.mono fun x q => by omega)).trans (r3.mono fun x q => by omega)
  have K : m_ss h' (va_up (sE σ) j en) := by
    refine ⟨⟨_, (r3.2.2 445 (by decide)).trans ((F2.2.2 445 (by decide)).trans (jk_at_self ..)), fun i hi => ?_⟩, ⟨_, (r3.2.2 446 (by decide)).trans (jk_at_self ..), fun i hi => ?_⟩, ⟨B', r2, fun i e k hi q hk => ?_⟩, B4, (r3.2.2 448 (by decide)).trans ((F2.2.2 448 (by decide)).trans ((F1.2.2 448 (by decide)).trans d1))⟩
    · unfold upd va_up
      split
      · exact hb
      · exact a2 i hi
    · unfold upd va_up
      split
      · exact hs
      · exact b2 i hi
    · unfold va_up at q
      by_cases z : i = j
      · rw [if_pos z] at q
        subst z
        obtain ⟨l, z0⟩ := hz e q
        rw [z0, r4 k (by omega) (by omega)]
      · rw [if_neg z] at q
        have l := (A.ss i e hi q).2
        rw [r5 _ (by omega)]
        exact c2 i e k hi q hk
  obtain ⟨R1, Q1⟩ := RS_ss R A F (fun x q => q) K
  exact ⟨B1, B2, h', a1, b1, r1, R1, Q1⟩
theorem rr_sheet (R : RSt h σ) (A : AWt σ) (k b n : Int32) : ∃ h', (∀ d, jx_C rc (d + 20) 193 [.ref 336, .int k, .int b, .int n] h = some (some (.int (op_sheet σ k b n).1), h')) ∧ RSt h' (op_sheet σ k b n).2 ∧ rF h h' := by
  unfold op_sheet
  obtain ⟨e', e1, e2, e3⟩ := rr_error (rc := rc) R A (k := 1) (by decide) (K := 1) rfl
  by_cases c0 : jp_four k = true
  · rw [if_pos c0]
    obtain ⟨j, hj, rfl⟩ := jp_four_iff.mp c0
    rw [pn_4 hj]
    by_cases cb : jq_bits b = true
    · rw [if_pos cb]
      by_cases b0 : b = 0
      · rw [if_pos b0]
        subst b0
        have st : ∀ d, jx_C rc (d + 20) 193 [.ref 336, .int (Int32.ofNat j), .int 0, .int n] h = jb_193 rc (d + 19) 26 [(0, .ref 336), (1, .int (Int32.ofNat j)), (2, .int 0), (3, .int n)] [] h := fun d => by
          rw [je_193, if_pos R.is, rf_four, jk_cI, jk_if0, if_pos c0, if_pos rfl, if_pos (by decide)]
        obtain ⟨B1, B2, h', g1, g2, r1, R1, F1⟩ := rr_sh_lay (rc := rc) (en := none) (b := 0) (n := 0) R A hj rfl rfl (fun e q => by cases q)
        refine ⟨h', fun d => ?_, R1, F1⟩
        have o2 : ∀ x, jx_gR (jx_at (jx_set h 445 x) 336) 12 33 = some 446 := fun x => by rw [jk_at_ne _ _ (by decide)]; exact R.g33
        rw [st d, je_193_26, if_pos (by decide), R.g32, jk_bs, g1, jk_sI hj (by decide), jk_bs, o2, jk_bs, if_pos (by decide), jk_at_ne _ _ (by decide), g2, jk_sI hj (by decide), jk_bs]
        exact r1 _
      rw [if_neg b0]
      have bp : ¬ b ≤ 0 := by rcases jq_bits_iff.mp cb with z | z | z | z; exact absurd z b0; all_goals (rw [z]; decide)
      by_cases cn : n < 0
      · rw [if_pos cn]
        have cn' : ¬ 0 ≤ n := fun z => by rw [Int32.lt_iff_toInt_lt] at cn; rw [Int32.le_iff_toInt_le] at z; omega
        obtain ⟨f', f1, f2, f3⟩ := rr_error (rc := rc) R A (k := 3) (by decide) (K := 3) rfl
        refine ⟨f', fun d => ?_, f2, f3⟩
        rw [je_193, if_pos R.is, rf_four, jk_cI, jk_if0, if_pos c0, if_neg b0]
        simp only [if_neg bp, if_neg cn']
        rcases jq_bits_iff.mp cb with z | z | z | z
        · exact absurd z b0
        · rw [if_pos z, f1, jk_cI]
        · rw [if_neg (by rw [z]; decide), if_pos z, f1, jk_cI]
        · rw [if_neg (by rw [z]; decide), if_neg (by rw [z]; decide), if_pos z, f1, jk_cI]
      rw [if_neg cn]
      have cn' : 0 ≤ n := by rw [Int32.lt_iff_toInt_lt] at cn; rw [Int32.le_iff_toInt_le]; omega
      have st : ∀ d, jx_C rc (d + 20) 193 [.ref 336, .int (Int32.ofNat j), .int b, .int n] h = jb_193 rc (d + 19) 26 [(0, .ref 336), (1, .int (Int32.ofNat j)), (2, .int b), (3, .int n)] [] h := fun d => by
        rw [je_193, if_pos R.is, rf_four, jk_cI, jk_if0, if_pos c0, if_neg b0]
        simp only [if_neg bp, if_pos cn']
        rcases jq_bits_iff.mp cb with z | z | z | z
        · exact absurd z b0
        · rw [if_pos z]
        · rw [if_neg (by rw [z]; decide), if_pos z]
        · rw [if_neg (by rw [z]; decide), if_neg (by rw [z]; decide), if_pos z]
      by_cases c24 : n ≤ 24
      · rw [if_pos c24]
        have l24 := c24
        rw [jk_of cn, show (24 : Int32) = Int32.ofNat 24 from rfl, jk_le (jk_of_lt n) (by decide)] at l24
        obtain ⟨B1, B2, h', g1, g2, r1, R1, F1⟩ := rr_sh_lay (rc := rc) (en := some (b, pn n, fun _ => 0)) (b := b) (n := n) R A hj rfl (jk_of cn) (fun e q => by cases q; exact ⟨l24, fun _ => rfl⟩)
        refine ⟨h', fun d => ?_, R1, F1⟩
        have o2 : ∀ x, jx_gR (jx_at (jx_set h 445 x) 336) 12 33 = some 446 := fun x => by rw [jk_at_ne _ _ (by decide)]; exact R.g33
        rw [st d, je_193_26, if_neg bp, if_pos c24, R.g32, jk_bs, g1, jk_sI hj (by decide), jk_bs, o2, jk_bs, if_neg bp, jk_at_ne _ _ (by decide), g2, jk_sI hj (by decide), jk_bs]
        exact r1 _
      · rw [if_neg c24]
        refine ⟨e', fun d => ?_, e2, e3⟩
        rw [st d, je_193_26, if_neg bp, if_neg c24, e1, jk_cI]
    · rw [if_neg cb]
      refine ⟨e', fun d => ?_, e2, e3⟩
      have cb' := fun z => cb (jq_bits_iff.mpr z)
      rw [je_193, if_pos R.is, rf_four, jk_cI, jk_if0, if_pos c0, if_neg (fun z => cb' (Or.inl z)), if_neg (fun z => cb' (Or.inr (Or.inl z))), if_neg (fun z => cb' (Or.inr (Or.inr (Or.inl z)))), if_neg (fun z => cb' (Or.inr (Or.inr (Or.inr z)))), e1, jk_cI]
  · rw [if_neg c0]
    refine ⟨e', fun d => ?_, e2, e3⟩
    rw [je_193, if_pos R.is, rf_four, jk_cI, jk_if0, if_neg c0, e1, jk_cI]
end
