/-! What a MOVE does, in the reference: the same -/
section
variable {rc : Nat → Nat × (Nat → Int32)} {h : jxH} {b : Nat} {f g : jF}
theorem rf_down_l {p : Nat} (hp : p < 12) {n e : Int32} {h2 : jxH → jxR} : ∀ (m k : Nat) (h : jxH), k + m = 12 → ro_at h b (fun j => if j < k ∧ bt n j = true then f.1 j - e else f.1 j, f.2) → ∃ h', (∀ d, jb_95 rc (d + 1) 14 [(0, .ref b), (1, .int (Int32.ofNat p)), (2, .int e), (3, .int n), (4, .int (Int32.ofNat k))] [] h = jb_95 rc (d + 1) 14 [(0, .ref b), (1, .int (Int32.ofNat p)), (2, .int e), (3, .int n), (4, .int (Int32.ofNat 12))] [] h') ∧ ro_at h' b (fun j => if bt n j = true then f.1 j - e else f.1 j, f.2) ∧ Fr (fun x => x = b) h h'
  | 0, k, h, e', H => by
    obtain rfl : k = 12 := by omega
    exact ⟨h, fun d => rfl, ro_congr H (fun j hj => by simp [hj]) (fun _ _ => rfl) rfl, Fr.rfl⟩
  | m + 1, k, h, e', H => by
    have hk : k < 12 := by omega
    have hw := ro_w H hk
    simp only [Nat.lt_irrefl, false_and, if_false] at hw
    by_cases hb : bt n k = true
    · obtain ⟨e1, i1, j1⟩ := ro_sw H hk (f.1 k - e)
      obtain ⟨h', i2, i3, i4⟩ := rf_down_l (h2 := h2) hp (n := n) (e := e) m (k + 1) (jx_set h b e1) (by omega) (ro_congr j1 (fun j hj => by
        show upd _ _ _ _ = _
        by_cases q : j = k
        · subst q; rw [upd_at]; simp [hb]
        · rw [upd_ne _ _ q]
          by_cases q2 : j < k
          · simp [q2, show j < k + 1 by omega]
          · simp [q2, show ¬ j < k + 1 by omega]) (fun _ _ => rfl) rfl)
      refine ⟨h', fun d => ?_, i3, Fr.one.trans i4⟩
      rw [je_95_14, if_neg (jk_n12 hk), hw, jk_bs, rf_has _ _ (by omega), jk_cI, jk_if0, if_pos hb, i1, jk_bs, jk_succ]
      exact i2 d
    · obtain ⟨e1, i1, j1⟩ := ro_sw H hk (f.1 k - 0)
      obtain ⟨h', i2, i3, i4⟩ := rf_down_l (h2 := h2) hp (n := n) (e := e) m (k + 1) (jx_set h b e1) (by omega) (ro_congr j1 (fun j hj => by
        show upd _ _ _ _ = _
        by_cases q : j = k
        · subst q; rw [upd_at]; simp [hb]
        · rw [upd_ne _ _ q]
          by_cases q2 : j < k
          · simp [q2, show j < k + 1 by omega]
          · simp [q2, show ¬ j < k + 1 by omega]) (fun _ _ => rfl) rfl)
      refine ⟨h', fun d => ?_, i3, Fr.one.trans i4⟩
      rw [je_95_14, if_neg (jk_n12 hk), hw, jk_bs, rf_has _ _ (by omega), jk_cI, jk_if0, if_neg hb, i1, jk_bs, jk_succ]
      exact i2 d
theorem rf_down (H : ro_at h b f) (B : jf_B f) {p : Nat} (hp : p < 12) (h2 : bc (f.2.1 p) ≤ 2) : ∃ h', (∀ d, jx_C rc (d + 3) 95 [.ref b, .int (Int32.ofNat p)] h = some (none, h')) ∧ ro_at h' b (jf_down f p) ∧ Fr (fun x => x = b) h h' := by
  obtain ⟨h1, r1, r2, r3⟩ := rf_down_l (rc := rc) (f := f) (h2 := fun _ => none) hp (n := f.2.1 p) (e := f.1 p) 12 0 h (by omega) (ro_congr H (fun j hj => by simp) (fun _ _ => rfl) rfl)
  obtain ⟨h3, s1, s2, s3⟩ := rf_leaves (rc := rc) r2 hp
  have hn := B.n p hp
  have sub : ∀ x e : Int32, x - e = x + -e := fun x e => Int32.sub_eq_add_neg x e
  by_cases q2 : bc (f.2.1 p) = 2
  · obtain ⟨x, e1⟩ := bc_lo (x := f.2.1 p) (by omega)
    obtain ⟨y, e2⟩ := bc_hi (x := f.2.1 p) (by omega)
    obtain ⟨x1, x2, -⟩ := lo_some.mp e1
    obtain ⟨y1, y2, -⟩ := hi_some.mp e2
    have e5 := (jk_other hn q2).1.trans e2
    have ne : x ≠ y := fun q => (jk_other hn q2).2 (by rw [e1, e2, q])
    have nx := (B.nb hp x2).2.2.1
    have ny := (B.nb hp y2).2.2.1
    obtain ⟨h4, u1, u2, u3⟩ := rf_ties (rc := rc) s2 x1 y1
    refine ⟨h4, fun d => ?_, ro_congr u2 (fun j hj => ?_) (fun j hj => ?_) ?_, (r3.trans s3).trans u3⟩
    · rw [je_95, ro_w H hp, jk_bs, ro_n H hp, jk_bs]
      refine (r1 (d + 1)).trans ?_
      rw [je_95_14, if_pos (by decide), s1, jk_cV, rf_many, jk_cI, if_pos ((jk_eq2 _).mpr q2), rf_lowest _ e1, jk_cI, rf_lowest _ e5, jk_cI, u1, jk_cV]
    · unfold jf_down; rw [e1, e2]
      simp only [if_neg ne]
      show upd (fun j => if bt (f.2.1 p) j = true then f.1 j - f.1 p else f.1 j) p 0 j = upd (upd (upd f.1 p 0) x (upd f.1 p 0 x + -f.1 p)) y (upd (upd f.1 p 0) x (upd f.1 p 0 x + -f.1 p) y + -f.1 p) j
      have two := fun hb => jk_two hn h2 hj hb
      rw [e1, e2] at two
      unfold upd
      by_cases q1 : j = p
      · subst q1; simp [nx.symm, ny.symm]
      · by_cases qx : j = x
        · subst qx; simp [q1, ne, x2, sub]
        · by_cases qy : j = y
          · subst qy; simp [q1, qx, y2, sub]
          · have : ¬ bt (f.2.1 p) j = true := fun hb => by
              rcases two hb with w | w
              · exact qx (by injection w with w; exact w.symm)
              · exact qy (by injection w with w; exact w.symm)
            simp [q1, qx, qy, this]
    · unfold jf_down; rw [e1, e2]
      simp only [if_neg ne]
      rfl
    · unfold jf_down; rw [e1, e2]
      simp only [if_neg ne]
      rfl
  · refine ⟨h3, fun d => ?_, ?_, r3.trans s3⟩
    · rw [je_95, ro_w H hp, jk_bs, ro_n H hp, jk_bs]
      refine (r1 (d + 1)).trans ?_
      rw [je_95_14, if_pos (by decide), s1, jk_cV, rf_many, jk_cI, if_neg (fun w => q2 ((jk_eq2 _).mp w))]
    · by_cases q1 : bc (f.2.1 p) = 1
      · obtain ⟨x, e1⟩ := bc_lo (x := f.2.1 p) (by omega)
        have e2 := (jk_one hn q1).symm.trans e1
        obtain ⟨x1, x2, -⟩ := lo_some.mp e1
        have nx := (B.nb hp x2).2.2.1
        refine ro_congr s2 (fun j hj => ?_) (fun j hj => ?_) ?_
        · unfold jf_down; rw [e1, e2]
          simp only []
          show upd (fun j => if bt (f.2.1 p) j = true then f.1 j - f.1 p else f.1 j) p 0 j = upd (upd f.1 p 0) x (upd f.1 p 0 x + -f.1 p) j
          have two := fun hb => jk_two hn h2 hj hb
          rw [e1, e2] at two
          unfold upd
          by_cases q1 : j = p
          · subst q1; simp [nx.symm]
          · by_cases qx : j = x
            · subst qx; simp [q1, x2, sub]
            · have : ¬ bt (f.2.1 p) j = true := fun hb => by
                rcases two hb with w | w
                · exact qx (by injection w with w; exact w.symm)
                · exact qx (by injection w with w; exact w.symm)
              simp [q1, qx, this]
        · unfold jf_down; rw [e1, e2]; simp only [if_true]; rfl
        · unfold jf_down; rw [e1, e2]; simp only [if_true]; rfl
      · have z := bc_0 hn (by omega)
        have e1 : lo (f.2.1 p) = none := by rw [z]; exact lo_0
        refine ro_congr s2 (fun j hj => ?_) (fun j hj => ?_) ?_
        · unfold jf_down; rw [e1]
          show upd (fun j => if bt (f.2.1 p) j = true then f.1 j - f.1 p else f.1 j) p 0 j = upd f.1 p 0 j
          rw [z]
          simp [bt_0]
        · unfold jf_down; rw [e1]; rfl
        · unfold jf_down; rw [e1]; rfl
theorem rf_up (H : ro_at h b f) (B : jf_B f) {p q : Nat} (hp : p < 12) (hq : q < 12) (hpq : bt (f.2.1 p) q = true) (v : Int32) (hc : bc f.2.2 < 12) : ∃ h', (∀ d, jx_C rc (d + 4) 96 [.ref b, .int (Int32.ofNat p), .int (Int32.ofNat q), .int v] h = some (none, h')) ∧ ro_at h' b (jf_up f p q v) ∧ Fr (fun x => x = b) h h' := by
  obtain ⟨-, n1, ne, n2⟩ := B.nb hp hpq
  obtain ⟨c, hc⟩ := bc_free hc
  obtain ⟨c1, c2, -⟩ := lo_not hc
  have cp : c ≠ p := fun w => by rw [w, n2] at c2; cases c2
  have cq : c ≠ q := fun w => by rw [w, n1] at c2; cases c2
  have hz := (B.abs c1 c2).2
  obtain ⟨e1, i1, j1⟩ := ro_sw H hp (f.1 p + v)
  obtain ⟨e2, i2, j2⟩ := ro_sw j1 hq (upd f.1 p (f.1 p + v) q + v)
  obtain ⟨h3, r1, r2, r3⟩ := rf_cuts (rc := rc) j2 hp hq
  obtain ⟨h4, s1, s2, s3⟩ := rf_comes (rc := rc) r2 hc (show (jf_part _ p q).2.1 c = 0 by
    show upd (upd f.2.1 p _) q _ c = 0
    rw [upd_ne _ _ cq, upd_ne _ _ cp]; exact hz) v
  obtain ⟨h5, u1, u2, u3⟩ := rf_ties (rc := rc) s2 c1 hp
  obtain ⟨h6, v1, v2, v3⟩ := rf_ties (rc := rc) u2 c1 hq
  refine ⟨h6, fun d => ?_, ro_congr v2 (fun j hj => ?_) (fun j hj => ?_) ?_, ((Fr.one.one'.trans r3).trans (s3.trans u3)).trans v3⟩
  · rw [je_96, ro_w H hp, jk_bs, i1, jk_bs, ro_w j1 hq, jk_bs, i2, jk_bs, r1, jk_cV, s1, jk_cI, u1, jk_cV, v1, jk_cV]
  · unfold jf_up; rw [jf_free_of hc]; unfold jf_bud; rw [jf_free_of (f := jf_addw (jf_part f p q) q v) hc]
    show upd (upd (upd f.1 p (f.1 p + v)) q (upd f.1 p (f.1 p + v) q + v)) c v j = upd (upd (upd f.1 q (f.1 q + v)) c v) p (upd (upd f.1 q (f.1 q + v)) c v p + v) j
    unfold upd
    grind
  · unfold jf_up; rw [jf_free_of hc]; unfold jf_bud; rw [jf_free_of (f := jf_addw (jf_part f p q) q v) hc]
    rfl
  · unfold jf_up; rw [jf_free_of hc]; unfold jf_bud; rw [jf_free_of (f := jf_addw (jf_part f p q) q v) hc]
    rfl
theorem jk_and_sub {s n : Int32} (h : s &&& (n ^^^ (-1)) = 0) {k : Nat} (hk : k < 32) (hb : bt s k = true) : bt n k = true := by
  have : bt (s &&& (n ^^^ (-1))) k = false := by rw [h, bt_0]
  rw [bt_and, hb, bt_not _ hk] at this
  simpa using this
theorem rf_absorb_l {p a c : Nat} (hp : p < 12) (ha : a < 12) (hc : c < 12) (n : Int32) : ∀ (m k : Nat) (h : jxH) (g : jF), k + m = 12 → ro_at h b g → (∀ x y, x < 12 → y < 32 → bt (g.2.1 x) y = (bt (f.2.1 x) y || (decide (x = a ∧ y < k ∧ y ≠ p) && bt n y) || (decide (y = a ∧ x < k ∧ x ≠ p) && bt n x))) → g.1 = f.1 → g.2.2 = f.2.2 → ∃ h' g', (∀ d, jb_97 rc (d + 1) 29 [(0, .ref b), (1, .int (Int32.ofNat p)), (2, .int (Int32.ofNat a)), (3, .int (Int32.ofNat c)), (4, .int n), (5, .int (Int32.ofNat k))] [] h = some (none, h')) ∧ ro_at h' b (jf_rem (jf_rem g' p) c) ∧ (∀ x y, x < 12 → y < 32 → bt (g'.2.1 x) y = (bt (f.2.1 x) y || (decide (x = a ∧ y < 12 ∧ y ≠ p) && bt n y) || (decide (y = a ∧ x < 12 ∧ x ≠ p) && bt n x))) ∧ g'.1 = f.1 ∧ g'.2.2 = f.2.2 ∧ Fr (fun x => x = b) h h'
  | 0, k, h, g, e, H, Hg, w1, w2 => by
    obtain rfl : k = 12 := by omega
    obtain ⟨h1, r1, r2, r3⟩ := rf_leaves (rc := rc) H hp
    obtain ⟨h2, s1, s2, s3⟩ := rf_leaves (rc := rc) r2 hc
    refine ⟨h2, g, fun d => ?_, s2, Hg, w1, w2, r3.trans s3⟩
    rw [je_97_29, if_pos (by decide), r1, jk_cV, s1, jk_cV]
  | m + 1, k, h, g, e, H, Hg, w1, w2 => by
    have hk : k < 12 := by omega
    by_cases hb : bt n k = true
    · by_cases hkp : k = p
      · obtain ⟨h', g', i1, i2, i3, i4⟩ := rf_absorb_l hp ha hc n m (k + 1) h g (by omega) H (fun x y hx hy => by rw [Hg x y hx hy]; grind) w1 w2
        refine ⟨h', g', fun d => ?_, i2, i3, i4⟩
        rw [je_97_29, if_neg (jk_n12 hk), rf_has _ _ (by omega), jk_cI, jk_if0, if_pos hb, if_pos (by rw [hkp]), jk_succ]
        exact i1 d
      · obtain ⟨h1, r1, r2, r3⟩ := rf_ties (rc := rc) H ha hk
        obtain ⟨h', g', i1, i2, i3, i4, i5, i6⟩ := rf_absorb_l hp ha hc n m (k + 1) h1 (jf_join g a k) (by omega) r2 (fun x y hx hy => by rw [jb_join _ ha hk hy, Hg x y hx hy]; grind) w1 w2
        refine ⟨h', g', fun d => ?_, i2, i3, i4, i5, r3.trans i6⟩
        rw [je_97_29, if_neg (jk_n12 hk), rf_has _ _ (by omega), jk_cI, jk_if0, if_pos hb, if_neg (fun w => hkp ((jk_inj (by omega) (by omega)).mp w)), r1, jk_cV, jk_succ]
        exact i1 d
    · obtain ⟨h', g', i1, i2, i3, i4⟩ := rf_absorb_l hp ha hc n m (k + 1) h g (by omega) H (fun x y hx hy => by rw [Hg x y hx hy]; grind) w1 w2
      refine ⟨h', g', fun d => ?_, i2, i3, i4⟩
      rw [je_97_29, if_neg (jk_n12 hk), rf_has _ _ (by omega), jk_cI, jk_if0, if_neg hb, jk_succ]
      exact i1 d
theorem rf_absorb (H : ro_at h b f) (B : jf_B f) {p : Nat} (hp : p < 12) (h2 : bc (f.2.1 p) = 2) : ∃ h', (∀ d, jx_C rc (d + 4) 97 [.ref b, .int (Int32.ofNat p)] h = some (none, h')) ∧ ro_at h' b (jf_absorb f p) ∧ Fr (fun x => x = b) h h' := by
  have hn := B.n p hp
  obtain ⟨x, e1⟩ := bc_lo (x := f.2.1 p) (by omega)
  obtain ⟨y, e2⟩ := bc_hi (x := f.2.1 p) (by omega)
  obtain ⟨x1, x2, -⟩ := lo_some.mp e1
  obtain ⟨y1, y2, -⟩ := hi_some.mp e2
  have e5 := (jk_other hn h2).1.trans e2
  have ne : x ≠ y := fun q => (jk_other hn h2).2 (by rw [e1, e2, q])
  have nx := (B.nb hp x2).2.2.1
  have ny := (B.nb hp y2).2.2.1
  obtain ⟨e3, i1, j1⟩ := ro_sw H x1 (f.1 x + f.1 y)
  obtain ⟨h', g', r1, r2, r3, r4, r5, r6⟩ := rf_absorb_l (rc := rc) (f := (upd f.1 x (f.1 x + f.1 y), f.2)) hp x1 y1 (f.2.1 y) 12 0 _ _ (by omega) j1 (fun u v hu hv => by simp) rfl rfl
  refine ⟨h', fun d => ?_, ro_congr r2 (fun j hj => ?_) (fun j hj => ?_) ?_, Fr.one.trans r6⟩
  · rw [je_97, rf_lightest H hp e1, jk_cI, rf_other H hp e5, jk_cI, ro_w H x1, jk_bs, ro_w H y1, jk_bs, i1, jk_bs, ro_n j1 y1, jk_bs]
    exact r1 (d + 2)
  · unfold jf_absorb; rw [e1, e2]
    show upd (upd g'.1 p 0) y 0 j = (jf_joins _ x _ 12).1 j
    rw [(jw_joins _ x _ 12).1, r4]
    show upd (upd (upd f.1 x (f.1 x + f.1 y)) p 0) y 0 j = upd (upd (upd f.1 p 0) x (upd f.1 p 0 x + upd f.1 p 0 y)) y 0 j
    unfold upd
    grind
  · unfold jf_absorb; rw [e1, e2]
    apply bt_ext
    intro k hk
    simp only []
    rw [jb_rem _ y1 hk, jb_rem _ hp hk, r3 j k hj hk, jb_joins _ _ x1 hk 12 (Nat.le_refl _), jb_rem _ y1 hk]
    show _ = ((bt ((jf_rem f p).2.1 j) k && _ && _) || (_ && bt ((jf_rem f p).2.1 y) k) || (_ && bt ((jf_rem f p).2.1 y) j))
    rw [jb_rem _ hp hk, jb_rem _ hp hk, jb_rem _ hp (show j < 32 by omega)]
    have a1 := B.irr y1
    have a2 : bt (f.2.1 y) k = true → k < 12 := fun w => (B.nb y1 w).1
    simp only []
    by_cases c1 : j = y
    · subst c1; simp [a1, ne.symm]
    · by_cases c2 : k = y
      · subst c2; simp [a1, ne.symm]
      · by_cases c3 : j = p
        · subst c3; simp [nx.symm]
        · by_cases c4 : k = p
          · subst c4; simp [nx.symm]
          · simp [c1, c2, c3, c4, ny]
  · unfold jf_absorb; rw [e1, e2]
    show (g'.2.2 &&& (jk_bit p ^^^ (-1))) &&& (jk_bit y ^^^ (-1)) = (jf_joins _ x _ 12).2.2
    rw [(jw_joins _ x _ 12).2, r5]
    rfl
theorem rf_draw_l {p z c : Nat} (hp : p < 12) (hz : z < 12) (hc : c < 12) (hcp : c ≠ p) (s : Int32) (hs : ∀ k, k < 12 → bt s k = true → k ≠ p ∧ k ≠ c) : ∀ (m k : Nat) (h : jxH) (g : jF), k + m = 12 → ro_at h b g → (∀ x y, x < 12 → y < 32 → bt (g.2.1 x) y = ((bt (f.2.1 x) y && !(decide (x = p ∧ y < k) && bt s y) && !(decide (y = p ∧ x < k) && bt s x)) || (decide (x = c ∧ y < k) && bt s y) || (decide (y = c ∧ x < k) && bt s x))) → g.1 = f.1 → g.2.2 = f.2.2 → ∃ h' g', (∀ d, jb_98 rc (d + 1) 19 [(0, .ref b), (1, .int (Int32.ofNat p)), (3, .int s), (4, .int (Int32.ofNat z)), (5, .int (Int32.ofNat c)), (6, .int (Int32.ofNat k))] [] h = some (none, h')) ∧ ro_at h' b (jf_join (jf_join g' z p) c z) ∧ (∀ x y, x < 12 → y < 32 → bt (g'.2.1 x) y = ((bt (f.2.1 x) y && !(decide (x = p ∧ y < 12) && bt s y) && !(decide (y = p ∧ x < 12) && bt s x)) || (decide (x = c ∧ y < 12) && bt s y) || (decide (y = c ∧ x < 12) && bt s x))) ∧ g'.1 = f.1 ∧ g'.2.2 = f.2.2 ∧ Fr (fun x => x = b) h h'
  | 0, k, h, g, e, H, Hg, w1, w2 => by
    obtain rfl : k = 12 := by omega
    obtain ⟨h1, r1, r2, r3⟩ := rf_ties (rc := rc) H hz hp
    obtain ⟨h2, s1, s2, s3⟩ := rf_ties (rc := rc) r2 hc hz
    refine ⟨h2, g, fun d => ?_, s2, Hg, w1, w2, r3.trans s3⟩
    rw [je_98_19, if_pos (by decide), r1, jk_cV, s1, jk_cV]
  | m + 1, k, h, g, e, H, Hg, w1, w2 => by
    have hk : k < 12 := by omega
    by_cases hb : bt s k = true
    · obtain ⟨kp, kc⟩ := hs k hk hb
      obtain ⟨h1, r1, r2, r3⟩ := rf_cuts (rc := rc) H hp hk
      obtain ⟨h2, s1, s2, s3⟩ := rf_ties (rc := rc) r2 hc hk
      obtain ⟨h', g', i1, i2, i3, i4, i5, i6⟩ := rf_draw_l hp hz hc hcp s hs m (k + 1) h2 (jf_join (jf_part g p k) c k) (by omega) s2 (fun x y hx hy => by rw [jb_join _ hc hk hy, jb_part _ hp hk hy, Hg x y hx hy]; grind) w1 w2
      refine ⟨h', g', fun d => ?_, i2, i3, i4, i5, (r3.trans s3).trans i6⟩
      rw [je_98_19, if_neg (jk_n12 hk), rf_has _ _ (by omega), jk_cI, jk_if0, if_pos hb, r1, jk_cV, s1, jk_cV, jk_succ]
      exact i1 d
    · obtain ⟨h', g', i1, i2, i3, i4⟩ := rf_draw_l hp hz hc hcp s hs m (k + 1) h g (by omega) H (fun x y hx hy => by rw [Hg x y hx hy]; grind) w1 w2
      refine ⟨h', g', fun d => ?_, i2, i3, i4⟩
      rw [je_98_19, if_neg (jk_n12 hk), rf_has _ _ (by omega), jk_cI, jk_if0, if_neg hb, jk_succ]
      exact i1 d
theorem rf_draw (H : ro_at h b f) (B : jf_B f) {p : Nat} (hp : p < 12) (hb : bt f.2.2 p = true) (v s : Int32) (hs : s &&& (f.2.1 p ^^^ (-1)) = 0) (h2 : bc f.2.2 < 11) : ∃ h', (∀ d, jx_C rc (d + 4) 98 [.ref b, .int (Int32.ofNat p), .int v, .int s] h = some (none, h')) ∧ ro_at h' b (jf_draw f p v s) ∧ Fr (fun x => x = b) h h' := by
  obtain ⟨z, hz⟩ := bc_free (x := f.2.2) (by omega)
  obtain ⟨c, hc⟩ := bc_free (x := f.2.2 ||| jk_bit z) (by have := bc_set (x := f.2.2) (lo_not hz).1; omega)
  obtain ⟨z1, z2, -⟩ := lo_not hz
  obtain ⟨c1, c2, -⟩ := lo_not hc
  rw [bt_set _ z1 c1] at c2
  have c3 : bt f.2.2 c = false := by simpa using (Bool.or_eq_false_iff.mp c2).1
  have cz : c ≠ z := by simpa using (Bool.or_eq_false_iff.mp c2).2
  have zp : z ≠ p := fun w => by rw [w, hb] at z2; cases z2
  have cp : c ≠ p := fun w => by rw [w, hb] at c3; cases c3
  have sub : ∀ x e : Int32, x - e = x + -e := fun x e => Int32.sub_eq_add_neg x e
  have hsn : ∀ k, k < 32 → bt s k = true → bt (f.2.1 p) k = true := fun k hk hb => jk_and_sub hs hk hb
  obtain ⟨e1, i1, j1⟩ := ro_sw H hp (f.1 p - v)
  obtain ⟨h1, r1, r2, r3⟩ := rf_comes (rc := rc) j1 hz (B.abs z1 z2).2 0
  obtain ⟨h3, s1, s2, s3⟩ := rf_comes (rc := rc) r2 hc (B.abs c1 c3).2 v
  obtain ⟨h', g', u1, u2, u3, u4, u5, u6⟩ := rf_draw_l (rc := rc) (f := jf_grow (jf_grow (upd f.1 p (f.1 p - v), f.2) z 0) c v) hp z1 c1 cp s (fun k hk w => by
    obtain ⟨-, n1, n2, -⟩ := B.nb hp (hsn k (by omega) w)
    exact ⟨n2, fun q => by rw [q, c3] at n1; cases n1⟩) 12 0 _ _ (by omega) s2 (fun u v hu hv => by simp) rfl rfl
  have f1 : jf_free f = z := jf_free_of hz
  have f2 : jf_free (jf_grow f z 0) = c := jf_free_of (f := jf_grow f z 0) hc
  refine ⟨h', fun d => ?_, ro_congr u2 (fun j hj => ?_) (fun j hj => ?_) ?_, ((Fr.one.trans r3).trans s3).trans u6⟩
  · rw [je_98, ro_w H hp, jk_bs, i1, jk_bs, r1, jk_cI, s1, jk_cI]
    exact u1 (d + 2)
  · unfold jf_draw; rw [f1, f2]
    show g'.1 j = (jf_joins _ c s 12).1 j
    rw [(jw_joins _ c s 12).1, (jw_parts _ p s 12).1, u4]
    show upd (upd (upd f.1 p (f.1 p - v)) z 0) c v j = upd (upd (upd f.1 z 0) c v) p (upd (upd f.1 z 0) c v p + -v) j
    unfold upd
    grind
  · unfold jf_draw; rw [f1, f2]
    apply bt_ext
    intro k hk
    rw [jb_join _ c1 z1 hk, jb_join _ z1 hp hk, u3 j k hj hk, jb_join _ z1 c1 hk, jb_join _ hp z1 hk, jb_joins _ s c1 hk 12 (Nat.le_refl _), jb_parts _ s hp hk 12 (Nat.le_refl _)]
    have com : ∀ X a b c d : Bool, ((((X || a) || b) || c) || d) = ((((X || b) || a) || d) || c) := by decide
    exact com _ _ _ _ _
  · unfold jf_draw; rw [f1, f2]
    show g'.2.2 = (jf_joins _ c s 12).2.2
    rw [(jw_joins _ c s 12).2, (jw_parts _ p s 12).2, u5]
    rfl
theorem rf_mirror_l : ∀ (m k : Nat) (h : jxH), k + m = 12 → ro_at h b (fun j => if j < k then -f.1 j else f.1 j, f.2) → ∃ h', (∀ d, jb_99 rc d 50 [(0, .ref b), (6, .int (Int32.ofNat k))] [] h = some (none, h')) ∧ ro_at h' b (jf_mirror f) ∧ Fr (fun x => x = b) h h'
  | 0, k, h, e, H => by
    obtain rfl : k = 12 := by omega
    refine ⟨h, fun d => by rw [je_99_50]; rfl, ro_congr H (fun j hj => ?_) (fun _ _ => rfl) rfl, Fr.rfl⟩
    simp [hj, jf_mirror]
  | m + 1, k, h, e, H => by
    have hk : k < 12 := by omega
    obtain ⟨e, e1, e2⟩ := ro_sw H hk (-f.1 k)
    obtain ⟨h', i1, i2, i3⟩ := rf_mirror_l m (k + 1) (jx_set h b e) (by omega) (ro_congr e2 (fun j hj => by
      show upd _ _ _ _ = _
      by_cases hjk : j = k
      · rw [hjk, upd_at]; simp
      · rw [upd_ne _ _ hjk]
        by_cases hlt : j < k
        · simp [hlt, show j < k + 1 by omega]
        · simp [hlt, show ¬ j < k + 1 by omega]) (fun _ _ => rfl) rfl)
    refine ⟨h', fun d => ?_, i2, Fr.one.trans i3⟩
    have hw := ro_w H hk
    simp only [Nat.lt_irrefl, if_false] at hw
    rw [je_99_50, if_neg (jk_n12 hk), hw, jk_bs, e1, jk_bs, jk_succ]
    exact i1 d
/-- does(), of a MOVE that isn't REFUSED -/
theorem rf_does (H : ro_at h b f) (B : jf_B f) (m : jM) (e : jf_ref f false m = 0) : ∃ h', (∀ d, jx_C rc (d + 6) 99 [.ref b, .int m.1, .int m.2.1, .int m.2.2.1, .int m.2.2.2.1, .int m.2.2.2.2] h = some (none, h')) ∧ ro_at h' b (jf_act f m) ∧ Fr (fun x => x = b) h h' := by
  rcases jf_ref_k e with hk | hk | hk | hk | hk | hk | hk | hk
  · obtain ⟨p, hp, e1, e2, -, e3⟩ := jf_ref_0 e hk
    obtain ⟨h', i1, i2, i3⟩ := rf_down (rc := rc) H B hp e3
    refine ⟨h', fun d => ?_, ?_, i3⟩
    · rw [je_99, hk, if_pos rfl, e1, i1, jk_cV]
    · unfold jf_act; rw [if_pos hk, e1, pn_of hp]; exact i2
  · obtain ⟨p, q, hp, hq, e1, e3, e2, e4, e5, e6, e7⟩ := jf_ref_1 e hk
    obtain ⟨h', i1, i2, i3⟩ := rf_up (rc := rc) H B hp hq e5 m.2.2.2.1 e7
    refine ⟨h', fun d => ?_, ?_, i3⟩
    · rw [je_99, hk, if_neg (by decide), if_pos (by decide), e1, e3, i1, jk_cV]
    · unfold jf_act; rw [if_neg (by rw [hk]; decide), if_pos hk, e1, e3, pn_of hp, pn_of hq]; exact i2
  · obtain ⟨p, hp, e1, e2, e3, e4⟩ := jf_ref_2 e hk
    obtain ⟨c, hc⟩ := bc_free e4
    obtain ⟨c1, c2, -⟩ := lo_not hc
    have cp : c ≠ p := fun w => by rw [w, e2] at c2; cases c2
    obtain ⟨y, i1, j1⟩ := ro_sw H hp (f.1 p + m.2.2.2.1)
    obtain ⟨h1, r1, r2, r3⟩ := rf_comes (rc := rc) j1 hc (B.abs c1 c2).2 m.2.2.2.1
    obtain ⟨h', s1, s2, s3⟩ := rf_ties (rc := rc) r2 c1 hp
    refine ⟨h', fun d => ?_, ?_, (Fr.one.trans r3).trans s3⟩
    · rw [je_99, hk, if_neg (by decide), if_neg (by decide), if_pos (by decide), e1, ro_w H hp, jk_bs, i1, jk_bs, r1, jk_cI, s1, jk_cV]
    · unfold jf_act; rw [if_neg (by rw [hk]; decide), if_neg (by rw [hk]; decide), if_pos hk, e1, pn_of hp]
      refine ro_congr s2 (fun j hj => ?_) (fun j hj => ?_) ?_
      · unfold jf_bud; rw [jf_free_of hc]
        show upd (upd f.1 p (f.1 p + m.2.2.2.1)) c m.2.2.2.1 j = upd (upd f.1 c m.2.2.2.1) p (upd f.1 c m.2.2.2.1 p + m.2.2.2.1) j
        unfold upd
        grind
      · unfold jf_bud; rw [jf_free_of hc]; rfl
      · unfold jf_bud; rw [jf_free_of hc]; rfl
  · obtain ⟨e3, e4⟩ := jf_ref_3 e hk
    obtain ⟨c, hc⟩ := bc_free e4
    obtain ⟨c1, c2, -⟩ := lo_not hc
    obtain ⟨h', i1, i2, i3⟩ := rf_comes (rc := rc) H hc (B.abs c1 c2).2 m.2.2.2.1
    refine ⟨h', fun d => ?_, ?_, i3⟩
    · rw [je_99, hk, if_neg (by decide), if_neg (by decide), if_neg (by decide), if_pos (by decide), i1, jk_cI]
    · unfold jf_act; rw [if_neg (by rw [hk]; decide), if_neg (by rw [hk]; decide), if_neg (by rw [hk]; decide), if_pos hk, jf_free_of hc]; exact i2
  · obtain ⟨p, hp, e1, e2, -, e4⟩ := jf_ref_4 e hk
    obtain ⟨h', i1, i2, i3⟩ := rf_absorb (rc := rc) H B hp e4
    refine ⟨h', fun d => ?_, ?_, i3⟩
    · rw [je_99, hk, if_neg (by decide), if_neg (by decide), if_neg (by decide), if_neg (by decide), if_pos (by decide), e1, i1, jk_cV]
    · unfold jf_act; rw [if_neg (by rw [hk]; decide), if_neg (by rw [hk]; decide), if_neg (by rw [hk]; decide), if_neg (by rw [hk]; decide), if_pos hk, e1, pn_of hp]; exact i2
  · obtain ⟨p, hp, e1, e2, -, e4⟩ := jf_ref_5 e hk
    obtain ⟨x, hx⟩ := bc_lo (x := f.2.1 p) (by omega)
    obtain ⟨x1, x2, x3⟩ := lo_some.mp hx
    obtain ⟨-, nx, ne, -⟩ := B.nb hp x2
    obtain ⟨h1, r1, r2, r3⟩ := rf_leaves (rc := rc) H hp
    obtain ⟨h', s1, s2, s3⟩ := rf_leaves (rc := rc) r2 x1
    refine ⟨h', fun d => ?_, ?_, r3.trans s3⟩
    · rw [je_99, hk, if_neg (by decide), if_neg (by decide), if_neg (by decide), if_neg (by decide), if_neg (by decide), if_pos (by decide), e1, rf_lightest H hp hx, jk_cI, r1, jk_cV, s1, jk_cV]
    · unfold jf_act; rw [if_neg (by rw [hk]; decide), if_neg (by rw [hk]; decide), if_neg (by rw [hk]; decide), if_neg (by rw [hk]; decide), if_neg (by rw [hk]; decide), if_pos hk, e1, pn_of hp]
      unfold jf_split; rw [hx]
      refine ro_congr s2 (fun j hj => ?_) (fun j hj => bt_ext fun k hk => ?_) ?_
      · show upd (upd f.1 p 0) x 0 j = upd (upd f.1 x 0) p 0 j
        unfold upd
        grind
      · simp only []
        rw [jb_rem _ x1 hk, jb_rem _ hp hk, jb_rem _ hp hk, jb_rem _ x1 hk]
        have com : ∀ X a b c d : Bool, ((((X && a) && b) && c) && d) = ((((X && c) && d) && a) && b) := by decide
        exact com _ _ _ _ _
      · show (f.2.2 &&& (jk_bit p ^^^ (-1))) &&& (jk_bit x ^^^ (-1)) = (f.2.2 &&& (jk_bit x ^^^ (-1))) &&& (jk_bit p ^^^ (-1))
        rw [Int32.and_assoc, Int32.and_assoc, Int32.and_comm (jk_bit p ^^^ (-1))]
  · obtain ⟨h', i1, i2, i3⟩ := rf_mirror_l (rc := rc) (f := f) 12 0 h (by omega) (ro_congr H (fun j hj => by simp) (fun _ _ => rfl) rfl)
    refine ⟨h', fun d => ?_, ?_, i3⟩
    · rw [je_99, hk, if_neg (by decide), if_neg (by decide), if_neg (by decide), if_neg (by decide), if_neg (by decide), if_neg (by decide), if_pos (by decide)]
      exact i1 (d + 5)
    · unfold jf_act; rw [if_neg (by rw [hk]; decide), if_neg (by rw [hk]; decide), if_neg (by rw [hk]; decide), if_neg (by rw [hk]; decide), if_neg (by rw [hk]; decide), if_neg (by rw [hk]; decide), if_pos hk]; exact i2
  · obtain ⟨p, hp, e1, e2, -, e3, e4⟩ := jf_ref_7 e hk
    obtain ⟨h', i1, i2, i3⟩ := rf_draw (rc := rc) H B hp e2 m.2.2.2.1 m.2.2.2.2 e3 e4
    refine ⟨h', fun d => ?_, ?_, i3⟩
    · rw [je_99, hk, if_neg (by decide), if_neg (by decide), if_neg (by decide), if_neg (by decide), if_neg (by decide), if_neg (by decide), if_neg (by decide), e1, i1, jk_cV]
    · unfold jf_act; rw [if_neg (by rw [hk]; decide), if_neg (by rw [hk]; decide), if_neg (by rw [hk]; decide), if_neg (by rw [hk]; decide), if_neg (by rw [hk]; decide), if_neg (by rw [hk]; decide), if_neg (by rw [hk]; decide), e1, pn_of hp]; exact i2
end
