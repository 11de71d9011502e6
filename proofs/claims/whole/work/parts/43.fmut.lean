/-! The class's FOREST: what its methods change -/
def jf_setw (f : jF) (k : Nat) (x : Int32) : jF := (upd f.1 k x, f.2)
def jf_join (f : jF) (p q : Nat) : jF := (f.1, upd (upd f.2.1 p (f.2.1 p ||| jk_bit q)) q (upd f.2.1 p (f.2.1 p ||| jk_bit q) q ||| jk_bit p), f.2.2)
def jf_part (f : jF) (p q : Nat) : jF := (f.1, upd (upd f.2.1 p (f.2.1 p &&& (jk_bit q ^^^ (-1)))) q (upd f.2.1 p (f.2.1 p &&& (jk_bit q ^^^ (-1))) q &&& (jk_bit p ^^^ (-1))), f.2.2)
def jf_rem (f : jF) (p : Nat) : jF := (upd f.1 p 0, upd (fun q => f.2.1 q &&& (jk_bit p ^^^ (-1))) p 0, f.2.2 &&& (jk_bit p ^^^ (-1)))
def jf_mirror (f : jF) : jF := (fun k => -f.1 k, f.2)
def jf_grow (f : jF) (k : Nat) (x : Int32) : jF := (upd f.1 k x, f.2.1, f.2.2 ||| jk_bit k)
def jf_joins (f : jF) (p : Nat) (s : Int32) : Nat → jF
  | 0 => f
  | n + 1 => if bt s n then jf_join (jf_joins f p s n) p n else jf_joins f p s n
def jf_parts (f : jF) (p : Nat) (s : Int32) : Nat → jF
  | 0 => f
  | n + 1 => if bt s n then jf_part (jf_parts f p s n) p n else jf_parts f p s n
def jf_0 : jF := (fun _ => 0, fun _ => 0, 0)
theorem upd_at (f : Nat → Int32) (k : Nat) (x : Int32) : upd f k x k = x := by unfold upd; rw [if_pos rfl]
theorem upd_ne (f : Nat → Int32) {k j : Nat} (x : Int32) (h : j ≠ k) : upd f k x j = f j := by unfold upd; rw [if_neg h]
theorem jk_setpF {h : jxH} {a b : Nat} {e : jxE} (hb : b ≠ a) (c k : Nat) (v : Value) : jx_pF (jx_at (jx_set h a e) b) c k v = jx_pF (jx_at h b) c k v := by rw [jk_at_ne _ _ hb]
section
variable {rc : Nat → Nat × (Nat → Int32)} {h : jxH} {a : Nat} {f g : jF}
theorem jI_0 {a n x : Nat} (hx : x < n) : jI a n (a + x) := ⟨by omega, by omega⟩
theorem fo_setWeight (H : fo_at h a f) {k : Nat} (hk : k < 12) (hs : bt f.2.2 k = true) (x : Int32) : ∃ h', (∀ d, jx_C rc (d + 2) 237 [.ref a, .int (Int32.ofNat k), .int x] h = some (none, h')) ∧ fo_at h' a (jf_setw f k x) ∧ Fr (jI a 3) h h' := by
  obtain ⟨e, e1, e2⟩ := fo_sw H hk x
  refine ⟨_, fun d => ?_, e2, Fr.set (jI_0 (by decide))⟩
  rw [je_237, if_pos (fo_is H), fo_has H, jF_has_of hk, hs, jk_cI, jk_ite, if_pos rfl, fo_g0 H, jk_bs, e1]
  rfl
theorem fo_addWeight (H : fo_at h a f) {k : Nat} (hk : k < 12) (hs : bt f.2.2 k = true) (x : Int32) : ∃ h', (∀ d, jx_C rc (d + 2) 238 [.ref a, .int (Int32.ofNat k), .int x] h = some (none, h')) ∧ fo_at h' a (jf_setw f k (f.1 k + x)) ∧ Fr (jI a 3) h h' := by
  obtain ⟨e, e1, e2⟩ := fo_sw H hk (f.1 k + x)
  refine ⟨_, fun d => ?_, e2, Fr.set (jI_0 (by decide))⟩
  rw [je_238, if_pos (fo_is H), fo_has H, jF_has_of hk, hs, jk_cI, jk_ite, if_pos rfl, fo_g0 H, jk_bs, fo_w H hk, jk_bs, e1]
  rfl
theorem fo_addWeight_no (H : fo_at h a f) {p : Int32} (hp : jF_has f p = false) (x : Int32) (d : Nat) : jx_C rc (d + 2) 238 [.ref a, .int p, .int x] h = some (none, h) := by
  rw [je_238, if_pos (fo_is H), fo_has H, hp, jk_cI, jk_ite, if_neg (by decide)]
theorem fo_setWeight_no (H : fo_at h a f) {p : Int32} (hp : jF_has f p = false) (x : Int32) (d : Nat) : jx_C rc (d + 2) 237 [.ref a, .int p, .int x] h = some (none, h) := by
  rw [je_237, if_pos (fo_is H), fo_has H, hp, jk_cI, jk_ite, if_neg (by decide)]
theorem fo_mirror_l : ∀ (m k : Nat) (h : jxH), k + m = 12 → fo_at h a (fun j => if j < k then -f.1 j else f.1 j, f.2) → ∃ h', (∀ d, jb_239 rc d 2 [(0, .ref a), (1, .int (Int32.ofNat k))] [] h = some (none, h')) ∧ fo_at h' a (jf_mirror f) ∧ Fr (jI a 3) h h'
  | 0, k, h, e, H => by
    obtain rfl : k = 12 := by omega
    refine ⟨h, fun d => by rw [je_239_2]; rfl, fo_congr H (fun j hj => ?_) (fun _ _ => rfl) rfl, Fr.rfl⟩
    simp [hj, jf_mirror]
  | m + 1, k, h, e, H => by
    have hk : k < 12 := by omega
    obtain ⟨e, e1, e2⟩ := fo_sw H hk (-f.1 k)
    obtain ⟨h', i1, i2, i3⟩ := fo_mirror_l m (k + 1) (jx_set h (a + 1) e) (by omega) (fo_congr e2 (fun j hj => by
      show upd _ _ _ _ = _
      by_cases hjk : j = k
      · rw [hjk, upd_at]; simp
      · rw [upd_ne _ _ hjk]
        by_cases hlt : j < k
        · simp [hlt, show j < k + 1 by omega]
        · simp [hlt, show ¬ j < k + 1 by omega]) (fun _ _ => rfl) rfl)
    refine ⟨h', fun d => ?_, i2, Fr.trans (Fr.set (jI_0 (by decide))) i3⟩
    have hw := fo_w H hk
    simp only [Nat.lt_irrefl, if_false] at hw
    rw [je_239_2, if_neg (jk_n12 hk), fo_g0 H, jk_bs, jk_bs, hw, jk_bs, e1, jk_bs, jk_succ]
    exact i1 d
theorem fo_mirror (H : fo_at h a f) : ∃ h', (∀ d, jx_C rc (d + 1) 239 [.ref a] h = some (none, h')) ∧ fo_at h' a (jf_mirror f) ∧ Fr (jI a 3) h h' := by
  obtain ⟨h', i1, i2, i3⟩ := fo_mirror_l (rc := rc) (f := f) 12 0 h (by omega) (fo_congr H (fun j hj => by simp) (fun _ _ => rfl) rfl)
  refine ⟨h', fun d => ?_, i2, i3⟩
  rw [je_239, if_pos (fo_is H)]
  exact i1 d
theorem fo_grow (H : fo_at h a f) {k : Nat} (hk : lo (f.2.2 ^^^ (-1)) = some k) (x : Int32) : ∃ h', (∀ d, jx_C rc (d + 2) 240 [.ref a, .int x] h = some (some (.int (Int32.ofNat k)), h')) ∧ fo_at h' a (jf_grow f k x) ∧ Fr (jI a 3) h h' := by
  have h12 : k < 12 := (lo_some.mp hk).1
  obtain ⟨e, e1, e2⟩ := fo_ps H (f.2.2 ||| jk_bit k)
  obtain ⟨e', e3, e4⟩ := fo_sw e2 h12 x
  refine ⟨_, fun d => ?_, e4, Fr.cons (Fr.set ⟨Nat.le_refl _, by omega⟩) (jI_0 (by decide))⟩
  rw [je_240, if_pos (fo_is H), fo_g2 H, jk_bs, cl_leastOf, jk_cI, cl_isPlace, jk_cI, hk]
  show (if jk_b (jp_place (Int32.ofNat k)) = 0 then _ else _) = _
  rw [jp_place_of h12, jk_ite, if_pos rfl, fo_g2 H, jk_bs]
  show (jx_pF (jx_at h a) 1 2 (.int (f.2.2 ||| jk_bit k))).bind _ = _
  rw [e1, jk_bs, fo_g0 e2, jk_bs]
  show (jx_sI _ 0 (Int32.ofNat k) x).bind _ = _
  rw [e3]
  rfl
theorem fo_join (H : fo_at h a f) {p q : Nat} (hp : p < 12) (hq : q < 12) : ∃ h', (∀ d, jx_C rc (d + 1) 241 [.ref a, .int (Int32.ofNat p), .int (Int32.ofNat q)] h = some (none, h')) ∧ fo_at h' a (jf_join f p q) ∧ Fr (jI a 3) h h' := by
  obtain ⟨e, e1, e2⟩ := fo_sn H hp (f.2.1 p ||| jk_bit q)
  obtain ⟨e', e3, e4⟩ := fo_sn e2 hq (upd f.2.1 p (f.2.1 p ||| jk_bit q) q ||| jk_bit p)
  refine ⟨_, fun d => ?_, e4, Fr.cons (Fr.set (jI_0 (by decide))) (jI_0 (by decide))⟩
  rw [je_241, if_pos (fo_is H), if_neg (jk_nn (by omega)), if_neg (jk_n12 hp), if_neg (jk_nn (by omega)), if_neg (jk_n12 hq), fo_g1 H, jk_bs, fo_n H hp, jk_bs]
  show (jx_sI _ 0 _ (f.2.1 p ||| jk_bit q)).bind _ = _
  rw [e1, jk_bs, fo_g1 e2, jk_bs, fo_n e2 hq, jk_bs]
  show (jx_sI _ 0 _ (upd f.2.1 p (f.2.1 p ||| jk_bit q) q ||| jk_bit p)).bind _ = _
  rw [e3]
  rfl
theorem fo_join_no (H : fo_at h a f) {p q : Int32} (hq : q < 0) (d : Nat) : jx_C rc (d + 1) 241 [.ref a, .int p, .int q] h = some (none, h) := by
  rw [je_241, if_pos (fo_is H)]
  simp only [hq, if_true]
  repeat' split
  all_goals rfl
theorem fo_part (H : fo_at h a f) {p q : Nat} (hp : p < 12) (hq : q < 12) : ∃ h', (∀ d, jx_C rc (d + 1) 243 [.ref a, .int (Int32.ofNat p), .int (Int32.ofNat q)] h = some (none, h')) ∧ fo_at h' a (jf_part f p q) ∧ Fr (jI a 3) h h' := by
  obtain ⟨e, e1, e2⟩ := fo_sn H hp (f.2.1 p &&& (jk_bit q ^^^ (-1)))
  obtain ⟨e', e3, e4⟩ := fo_sn e2 hq (upd f.2.1 p (f.2.1 p &&& (jk_bit q ^^^ (-1))) q &&& (jk_bit p ^^^ (-1)))
  refine ⟨_, fun d => ?_, e4, Fr.cons (Fr.set (jI_0 (by decide))) (jI_0 (by decide))⟩
  rw [je_243, if_pos (fo_is H), if_neg (jk_nn (by omega)), if_neg (jk_n12 hp), if_neg (jk_nn (by omega)), if_neg (jk_n12 hq), fo_g1 H, jk_bs, fo_n H hp, jk_bs]
  show (jx_sI _ 0 _ (f.2.1 p &&& (jk_bit q ^^^ (-1)))).bind _ = _
  rw [e1, jk_bs, fo_g1 e2, jk_bs, fo_n e2 hq, jk_bs]
  show (jx_sI _ 0 _ (upd f.2.1 p (f.2.1 p &&& (jk_bit q ^^^ (-1))) q &&& (jk_bit p ^^^ (-1)))).bind _ = _
  rw [e3]
  rfl
theorem fo_joinAll_l {p : Nat} (hp : p < 12) (s : Int32) : ∀ (m k : Nat) (h : jxH), k + m = 12 → fo_at h a (jf_joins f p s k) → ∃ h', (∀ d, jb_242 rc (d + 1) 2 [(0, .ref a), (1, .int (Int32.ofNat p)), (2, .int s), (3, .int (Int32.ofNat k))] [] h = some (none, h')) ∧ fo_at h' a (jf_joins f p s 12) ∧ Fr (jI a 3) h h'
  | 0, k, h, e, H => by
    obtain rfl : k = 12 := by omega
    exact ⟨h, fun d => by rw [je_242_2]; rfl, H, Fr.rfl⟩
  | m + 1, k, h, e, H => by
    have hk : k < 12 := by omega
    by_cases hb : bt s k = true
    · obtain ⟨h1, j1, j2, j3⟩ := fo_join (rc := rc) H hp hk
      obtain ⟨h', i1, i2, i3⟩ := fo_joinAll_l hp s m (k + 1) h1 (by omega) (by unfold jf_joins; rw [if_pos hb]; exact j2)
      refine ⟨h', fun d => ?_, i2, j3.trans i3⟩
      rw [je_242_2, if_neg (jk_n12 hk), bt_sr _ (by omega), jk_ite, if_pos hb, j1, jk_cV, jk_succ]
      exact i1 d
    · obtain ⟨h', i1, i2, i3⟩ := fo_joinAll_l hp s m (k + 1) h (by omega) (by unfold jf_joins; rw [if_neg hb]; exact H)
      refine ⟨h', fun d => ?_, i2, i3⟩
      rw [je_242_2, if_neg (jk_n12 hk), bt_sr _ (by omega), jk_ite, if_neg hb, jk_succ]
      exact i1 d
theorem fo_joinAll (H : fo_at h a f) {p : Nat} (hp : p < 12) (s : Int32) : ∃ h', (∀ d, jx_C rc (d + 2) 242 [.ref a, .int (Int32.ofNat p), .int s] h = some (none, h')) ∧ fo_at h' a (jf_joins f p s 12) ∧ Fr (jI a 3) h h' := by
  obtain ⟨h', i1, i2, i3⟩ := fo_joinAll_l (rc := rc) (f := f) hp s 12 0 h (by omega) H
  refine ⟨h', fun d => ?_, i2, i3⟩
  rw [je_242, if_pos (fo_is H)]
  exact i1 d
theorem fo_partAll_l {p : Nat} (hp : p < 12) (s : Int32) : ∀ (m k : Nat) (h : jxH), k + m = 12 → fo_at h a (jf_parts f p s k) → ∃ h', (∀ d, jb_244 rc (d + 1) 2 [(0, .ref a), (1, .int (Int32.ofNat p)), (2, .int s), (3, .int (Int32.ofNat k))] [] h = some (none, h')) ∧ fo_at h' a (jf_parts f p s 12) ∧ Fr (jI a 3) h h'
  | 0, k, h, e, H => by
    obtain rfl : k = 12 := by omega
    exact ⟨h, fun d => by rw [je_244_2]; rfl, H, Fr.rfl⟩
  | m + 1, k, h, e, H => by
    have hk : k < 12 := by omega
    by_cases hb : bt s k = true
    · obtain ⟨h1, j1, j2, j3⟩ := fo_part (rc := rc) H hp hk
      obtain ⟨h', i1, i2, i3⟩ := fo_partAll_l hp s m (k + 1) h1 (by omega) (by unfold jf_parts; rw [if_pos hb]; exact j2)
      refine ⟨h', fun d => ?_, i2, j3.trans i3⟩
      rw [je_244_2, if_neg (jk_n12 hk), bt_sr _ (by omega), jk_ite, if_pos hb, j1, jk_cV, jk_succ]
      exact i1 d
    · obtain ⟨h', i1, i2, i3⟩ := fo_partAll_l hp s m (k + 1) h (by omega) (by unfold jf_parts; rw [if_neg hb]; exact H)
      refine ⟨h', fun d => ?_, i2, i3⟩
      rw [je_244_2, if_neg (jk_n12 hk), bt_sr _ (by omega), jk_ite, if_neg hb, jk_succ]
      exact i1 d
theorem fo_partAll (H : fo_at h a f) {p : Nat} (hp : p < 12) (s : Int32) : ∃ h', (∀ d, jx_C rc (d + 2) 244 [.ref a, .int (Int32.ofNat p), .int s] h = some (none, h')) ∧ fo_at h' a (jf_parts f p s 12) ∧ Fr (jI a 3) h h' := by
  obtain ⟨h', i1, i2, i3⟩ := fo_partAll_l (rc := rc) (f := f) hp s 12 0 h (by omega) H
  refine ⟨h', fun d => ?_, i2, i3⟩
  rw [je_244, if_pos (fo_is H)]
  exact i1 d
theorem fo_remove_l {p : Nat} (hp : p < 12) : ∀ (m k : Nat) (h : jxH), k + m = 12 → fo_at h a (f.1, fun q => if q < k then f.2.1 q &&& (jk_bit p ^^^ (-1)) else f.2.1 q, f.2.2) → ∃ h', (∀ d, jb_245 rc d 6 [(0, .ref a), (1, .int (Int32.ofNat p)), (2, .int (Int32.ofNat k))] [] h = some (none, h')) ∧ fo_at h' a (jf_rem f p) ∧ Fr (jI a 3) h h'
  | 0, k, h, e, H => by
    obtain rfl : k = 12 := by omega
    obtain ⟨e, e1, e2⟩ := fo_sn H hp 0
    obtain ⟨e', e3, e4⟩ := fo_sw e2 hp 0
    obtain ⟨e'', e5, e6⟩ := fo_ps e4 (f.2.2 &&& (jk_bit p ^^^ (-1)))
    refine ⟨_, fun d => ?_, fo_congr e6 (fun _ _ => rfl) (fun j hj => ?_) rfl, Fr.cons (Fr.cons (Fr.set (jI_0 (by decide))) (jI_0 (by decide))) ⟨Nat.le_refl _, by omega⟩⟩
    · rw [je_245_6, if_pos (by decide), fo_g1 H, jk_bs, e1, jk_bs, fo_g0 e2, jk_bs, e3, jk_bs, fo_g2 e4, jk_bs]
      show (jx_pF _ 1 2 (.int (f.2.2 &&& (jk_bit p ^^^ (-1))))).bind _ = _
      rw [e5]
      rfl
    · show upd (fun q => if q < 12 then f.2.1 q &&& (jk_bit p ^^^ (-1)) else f.2.1 q) p 0 j = upd (fun q => f.2.1 q &&& (jk_bit p ^^^ (-1))) p 0 j
      by_cases hjp : j = p
      · rw [hjp, upd_at, upd_at]
      · rw [upd_ne _ _ hjp, upd_ne _ _ hjp, if_pos hj]
  | m + 1, k, h, e, H => by
    have hk : k < 12 := by omega
    have hn := fo_n H hk
    simp only [Nat.lt_irrefl, if_false] at hn
    obtain ⟨e, e1, e2⟩ := fo_sn H hk (f.2.1 k &&& (jk_bit p ^^^ (-1)))
    obtain ⟨h', i1, i2, i3⟩ := fo_remove_l hp m (k + 1) (jx_set h (a + 2) e) (by omega) (fo_congr e2 (fun _ _ => rfl) (fun j hj => by
      show upd _ _ _ _ = _
      by_cases hjk : j = k
      · rw [hjk, upd_at]; simp
      · rw [upd_ne _ _ hjk]
        by_cases hlt : j < k
        · simp [hlt, show j < k + 1 by omega]
        · simp [hlt, show ¬ j < k + 1 by omega]) rfl)
    refine ⟨h', fun d => ?_, i2, Fr.trans (Fr.set (jI_0 (by decide))) i3⟩
    rw [je_245_6, if_neg (jk_n12 hk), fo_g1 H, jk_bs, hn, jk_bs]
    show (jx_sI _ 0 _ (f.2.1 k &&& (jk_bit p ^^^ (-1)))).bind _ = _
    rw [e1, jk_bs, jk_succ]
    exact i1 d
theorem fo_remove (H : fo_at h a f) {p : Nat} (hp : p < 12) (hs : bt f.2.2 p = true) : ∃ h', (∀ d, jx_C rc (d + 2) 245 [.ref a, .int (Int32.ofNat p)] h = some (none, h')) ∧ fo_at h' a (jf_rem f p) ∧ Fr (jI a 3) h h' := by
  obtain ⟨h', i1, i2, i3⟩ := fo_remove_l (rc := rc) (f := f) hp 12 0 h (by omega) (fo_congr H (fun _ _ => rfl) (fun j hj => by simp) rfl)
  refine ⟨h', fun d => ?_, i2, i3⟩
  rw [je_245, if_pos (fo_is H), fo_has H, jF_has_of hp, hs, jk_cI, jk_ite, if_pos rfl]
  exact i1 (d + 1)
-- Arrays.fill by 0 over a row of 12
theorem jk_fill_l {b : Nat} : ∀ (m k : Nat) (h : jxH) (g : Nat → Int32), k + m = 12 → jx_at h b = jxI 0 12 g → (∀ j, j < k → g j = 0) → ∃ g', (∀ d, jb_332 rc d 5 [(0, .ref b), (1, .int 0), (2, .int (Int32.ofNat k)), (3, .int (Int32.ofNat 12))] [] h = some (none, jx_set h b (jxI 0 12 g'))) ∧ ∀ j, j < 12 → g' j = 0
  | 0, k, h, g, e, H, hg => by
    obtain rfl : k = 12 := by omega
    refine ⟨g, fun d => ?_, hg⟩
    rw [je_332_5, if_pos (by decide), ← H]
    congr 2
    show h = (h.1, h.2.1, va_up h.2.2 b (h.2.2 b))
    rw [show va_up h.2.2 b (h.2.2 b) = h.2.2 from funext fun j => by unfold va_up; split <;> simp [*]]
  | m + 1, k, h, g, e, H, hg => by
    have hk : k < 12 := by omega
    obtain ⟨g', i1, i2⟩ := jk_fill_l m (k + 1) (jx_set h b (jxI 0 12 (upd g k 0))) (upd g k 0) (by omega) (jk_at_self ..) (fun j hj => by
      by_cases hjk : j = k
      · rw [hjk, upd_at]
      · rw [upd_ne _ _ hjk, hg j (by omega)])
    refine ⟨g', fun d => ?_, i2⟩
    rw [je_332_5, if_neg (by rw [jk_le (by decide) (by omega)]; omega), H, jk_sI hk (by decide), jk_bs, jk_succ, i1 d]
    congr 2
    show (h.1, h.2.1, va_up (va_up h.2.2 b _) b _) = (h.1, h.2.1, va_up h.2.2 b _)
    rw [show va_up (va_up h.2.2 b (jxI 0 12 (upd g k 0))) b (jxI 0 12 g') = va_up h.2.2 b (jxI 0 12 g') from funext fun j => by unfold va_up; split <;> simp [*]]
theorem jk_fill {b : Nat} {g : Nat → Int32} (H : jx_at h b = jxI 0 12 g) : ∃ g', (∀ d, jx_C rc (d + 1) 332 [.ref b, .int 0] h = some (none, jx_set h b (jxI 0 12 g'))) ∧ ∀ j, j < 12 → g' j = 0 := by
  obtain ⟨g', i1, i2⟩ := jk_fill_l (rc := rc) 12 0 h g (by omega) H (fun j hj => by omega)
  refine ⟨g', fun d => ?_, i2⟩
  rw [je_332, H]
  exact i1 d
theorem fo_clear (H : fo_at h a f) : ∃ h', (∀ d, jx_C rc (d + 2) 224 [.ref a] h = some (none, h')) ∧ fo_at h' a jf_0 ∧ Fr (jI a 3) h h' := by
  obtain ⟨o, ⟨W, w1, w2⟩, N, n1, n2⟩ := id H
  obtain ⟨W', w3, w4⟩ := jk_fill (rc := rc) w1
  have n3 : jx_at (jx_set h (a + 1) (jxI 0 12 W')) (a + 2) = jxI 0 12 N := by rw [jk_at_ne _ _ (by omega)]; exact n1
  obtain ⟨N', n4, n5⟩ := jk_fill (rc := rc) n3
  have o1 : jx_at (jx_set (jx_set h (a + 1) (jxI 0 12 W')) (a + 2) (jxI 0 12 N')) a = jxO 1 [.ref (a + 1), .ref (a + 2), .int f.2.2] := by
    rw [jk_at_ne _ _ (by omega), jk_at_ne _ _ (by omega)]; exact o
  have o2 : jx_at (jx_set h (a + 1) (jxI 0 12 W')) a = jxO 1 [.ref (a + 1), .ref (a + 2), .int f.2.2] := by
    rw [jk_at_ne _ _ (by omega)]; exact o
  refine ⟨jx_set (jx_set (jx_set h (a + 1) (jxI 0 12 W')) (a + 2) (jxI 0 12 N')) a (jxO 1 [.ref (a + 1), .ref (a + 2), .int 0]), fun d => ?_, ⟨jk_at_self .., ⟨W', ?_, w4⟩, N', ?_, n5⟩, Fr.cons (Fr.cons (Fr.set (jI_0 (by decide))) (jI_0 (by decide))) ⟨Nat.le_refl _, by omega⟩⟩
  · rw [je_224, if_pos (fo_is H), fo_g0 H, jk_bs, w3, jk_cV, o2]
    rw [show jx_gR (jxO 1 [Value.ref (a + 1), Value.ref (a + 2), Value.int f.2.2]) 1 1 = some (a + 2) from rfl, jk_bs, n4, jk_cV, o1]
    rfl
  · rw [jk_at_ne _ _ (by omega), jk_at_ne _ _ (by omega), jk_at_self]
  · rw [jk_at_ne _ _ (by omega), jk_at_self]
theorem jk_cpy12 {f g : Nat → Int32} : jx_cp (jxI 0 12 f) (jxI 0 12 g) 0 0 0 12 = some (jxI 0 12 (va_cpy f g 0 0 12)) := by
  unfold jx_cp jxI
  simp only []
  rw [if_pos (by decide)]
  rfl
theorem jk_cpy12_at {f g : Nat → Int32} {k : Nat} (hk : k < 12) : va_cpy f g 0 0 12 k = f k := by
  unfold va_cpy
  rw [if_pos (by omega)]
  simp
theorem fo_follow (H : fo_at h a f) {b : Nat} (G : fo_at h b g) (hab : a + 3 ≤ b ∨ b + 3 ≤ a) : ∃ h', (∀ d, jx_C rc (d + 1) 225 [.ref a, .ref b] h = some (none, h')) ∧ fo_at h' a g ∧ Fr (jI a 3) h h' := by
  obtain ⟨o, ⟨W, w1, w2⟩, N, n1, n2⟩ := id H
  obtain ⟨o', ⟨W', w1', w2'⟩, N', n1', n2'⟩ := id G
  refine ⟨jx_set (jx_set (jx_set h (a + 1) (jxI 0 12 (va_cpy W' W 0 0 12))) (a + 2) (jxI 0 12 (va_cpy N' N 0 0 12))) a (jxO 1 [.ref (a + 1), .ref (a + 2), .int g.2.2]), fun d => ?_, ⟨jk_at_self .., ⟨va_cpy W' W 0 0 12, ?_, fun k hk => (jk_cpy12_at hk).trans (w2' k hk)⟩, va_cpy N' N 0 0 12, ?_, fun k hk => (jk_cpy12_at hk).trans (n2' k hk)⟩, Fr.cons (Fr.cons (Fr.set (jI_0 (by decide))) (jI_0 (by decide))) ⟨Nat.le_refl _, by omega⟩⟩
  · rw [je_225, if_pos (fo_is H), fo_g0 G, jk_bs, fo_g0 H, jk_bs, w1, w1', jk_cpy12, jk_bs, jk_at_ne (a := a + 1) (b := b) _ _ (by omega), jk_at_ne (a := a + 1) (b := a) _ _ (by omega), fo_g1 G, jk_bs, fo_g1 H, jk_bs,
      jk_at_ne (a := a + 1) (b := b + 2) _ _ (by omega), jk_at_ne (a := a + 1) (b := a + 2) _ _ (by omega), n1, n1', jk_cpy12, jk_bs, jk_at_ne (a := a + 2) (b := b) _ _ (by omega), jk_at_ne (a := a + 2) (b := a) _ _ (by omega),
      jk_at_ne (a := a + 1) (b := b) _ _ (by omega), jk_at_ne (a := a + 1) (b := a) _ _ (by omega), fo_g2 G, jk_bs, o]
    rfl
  · rw [jk_at_ne _ _ (by omega), jk_at_ne _ _ (by omega), jk_at_self]
  · rw [jk_at_ne _ _ (by omega), jk_at_self]
end
