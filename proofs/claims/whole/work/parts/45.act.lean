/-! What a MOVE does (the class's Step.act) -/
def pn (p : Int32) : Nat := p.toNatClampNeg
theorem pn_of {k : Nat} (hk : k < 12) : pn (Int32.ofNat k) = k := jk_cl (by omega)
def jf_addw (f : jF) (k : Nat) (x : Int32) : jF := jf_setw f k (f.1 k + x)
def jf_free (f : jF) : Nat := (lo (f.2.2 ^^^ (-1))).getD 0
def jf_down (f : jF) (p : Nat) : jF := match lo (f.2.1 p), hi (f.2.1 p) with
  | some a, some b => if a = b then jf_addw (jf_rem f p) a (-(f.1 p)) else jf_join (jf_addw (jf_addw (jf_rem f p) a (-(f.1 p))) b (-(f.1 p))) a b
  | _, _ => jf_rem f p
def jf_bud (f : jF) (p : Nat) (v : Int32) : jF := jf_join (jf_addw (jf_grow f (jf_free f) v) p v) (jf_free f) p
def jf_up (f : jF) (p q : Nat) (v : Int32) : jF := jf_join (jf_bud (jf_addw (jf_part f p q) q v) p v) (jf_free f) q
def jf_absorb (f : jF) (p : Nat) : jF := match lo (f.2.1 p), hi (f.2.1 p) with
  | some a, some b => jf_joins (jf_rem (jf_addw (jf_rem f p) a ((jf_rem f p).1 b)) b) a ((jf_rem f p).2.1 b) 12
  | _, _ => f
def jf_split (f : jF) (p : Nat) : jF := match lo (f.2.1 p) with
  | some a => jf_rem (jf_rem f a) p
  | none => f
def jf_draw (f : jF) (p : Nat) (v s : Int32) : jF :=
  jf_join (jf_join (jf_joins (jf_parts (jf_addw (jf_grow (jf_grow f (jf_free f) 0) (jf_free (jf_grow f (jf_free f) 0)) v) p (-v)) p s 12) (jf_free (jf_grow f (jf_free f) 0)) s 12) p (jf_free f)) (jf_free f) (jf_free (jf_grow f (jf_free f) 0))
def jf_act (f : jF) (m : jM) : jF :=
  if m.1 = 0 then jf_down f (pn m.2.1)
  else if m.1 = 1 then jf_up f (pn m.2.1) (pn m.2.2.1) m.2.2.2.1
  else if m.1 = 2 then jf_bud f (pn m.2.1) m.2.2.2.1
  else if m.1 = 3 then jf_grow f (jf_free f) m.2.2.2.1
  else if m.1 = 4 then jf_absorb f (pn m.2.1)
  else if m.1 = 5 then jf_split f (pn m.2.1)
  else if m.1 = 6 then jf_mirror f
  else jf_draw f (pn m.2.1) m.2.2.2.1 m.2.2.2.2
/-- what always holds of a forest, rings left out -/
def jf_B (f : jF) : Prop := S12 f.2.2 ∧ (∀ k, k < 12 → S12 (f.2.1 k)) ∧ (∀ k j, k < 12 → j < 12 → bt (f.2.1 k) j = bt (f.2.1 j) k) ∧ (∀ k, k < 12 → bt (f.2.1 k) k = false) ∧ (∀ k, k < 12 → bt f.2.2 k = false → f.1 k = 0 ∧ f.2.1 k = 0) ∧ ∀ k, k < 12 → jp_wt (f.1 k) = true
section
variable {f : jF}
theorem jf_B.s (B : jf_B f) : S12 f.2.2 := B.1
theorem jf_B.n (B : jf_B f) : ∀ k, k < 12 → S12 (f.2.1 k) := B.2.1
theorem jf_B.sym (B : jf_B f) {k j : Nat} (hk : k < 12) (hj : j < 12) : bt (f.2.1 k) j = bt (f.2.1 j) k := B.2.2.1 k j hk hj
theorem jf_B.irr (B : jf_B f) {k : Nat} (hk : k < 12) : bt (f.2.1 k) k = false := B.2.2.2.1 k hk
theorem jf_B.abs (B : jf_B f) {k : Nat} (hk : k < 12) (h : bt f.2.2 k = false) : f.1 k = 0 ∧ f.2.1 k = 0 := B.2.2.2.2.1 k hk h
theorem jf_B.wt (B : jf_B f) {k : Nat} (hk : k < 12) : jp_wt (f.1 k) = true := B.2.2.2.2.2 k hk
/-- a neighbour is there -/
theorem jf_B.nb (B : jf_B f) {k j : Nat} (hk : k < 12) (h : bt (f.2.1 k) j = true) : j < 12 ∧ bt f.2.2 j = true ∧ j ≠ k ∧ bt f.2.2 k = true := by
  have hj : j < 12 := by
    apply Classical.byContradiction
    intro q
    rw [B.n k hk j (by omega)] at h; cases h
  refine ⟨hj, ?_, ?_, ?_⟩
  · cases hb : bt f.2.2 j
    · rw [B.sym hk hj, (B.abs hj hb).2, bt_0] at h; cases h
    · rfl
  · intro q; rw [q, B.irr hk] at h; cases h
  · cases hb : bt f.2.2 k
    · rw [(B.abs hk hb).2, bt_0] at h; cases h
    · rfl
end
theorem bc_0 : ∀ {x : Int32}, S12 x → bc x = 0 → x = 0 := fun {x} hx h => by
  apply S12_ext hx S12_0
  intro k hk
  rw [bt_0]
  unfold bc at h
  have := List.countP_eq_zero.mp h k (List.mem_range.mpr hk)
  simpa using this
theorem bc_lo {x : Int32} (h : 0 < bc x) : ∃ a, lo x = some a := by
  cases e : lo x with
  | some a => exact ⟨a, rfl⟩
  | none =>
    have := lo_none.mp e
    unfold bc at h
    rw [List.countP_eq_zero.mpr (fun k hk => by rw [this k (List.mem_range.mp hk)]; decide)] at h
    omega
theorem bc_hi {x : Int32} (h : 0 < bc x) : ∃ a, hi x = some a := by
  cases e : hi x with
  | some a => exact ⟨a, rfl⟩
  | none =>
    have := hi_none.mp e
    unfold bc at h
    rw [List.countP_eq_zero.mpr (fun k hk => by rw [this k (List.mem_range.mp hk)]; decide)] at h
    omega
theorem bc_free {x : Int32} (h : bc x < 12) : ∃ a, lo (x ^^^ (-1)) = some a := by
  cases e : lo (x ^^^ (-1)) with
  | some a => exact ⟨a, rfl⟩
  | none =>
    have h0 := lo_none.mp e
    unfold bc at h
    have : (List.range 12).countP (bt x) = (List.range 12).length := List.countP_eq_length.mpr (fun k hk => by
      have hk := List.mem_range.mp hk
      have := h0 k hk
      rw [bt_not _ (by omega)] at this
      simpa using this)
    rw [List.length_range] at this
    omega
theorem lo_not {x : Int32} {k : Nat} (h : lo (x ^^^ (-1)) = some k) : k < 12 ∧ bt x k = false ∧ ∀ i, i < k → bt x i = true := by
  obtain ⟨h1, h2, h3⟩ := lo_some.mp h
  rw [bt_not _ (by omega)] at h2
  refine ⟨h1, by simpa using h2, fun i hi => ?_⟩
  have := h3 i hi
  rw [bt_not _ (by omega)] at this
  simpa using this
theorem lo_0 : lo 0 = none := lo_none.mpr fun i _ => bt_0 i
theorem hi_0 : hi 0 = none := hi_none.mpr fun i _ => bt_0 i
theorem jf_free_of {f : jF} {k : Nat} (h : lo (f.2.2 ^^^ (-1)) = some k) : jf_free f = k := by unfold jf_free; rw [h]; rfl
theorem bt_clr (x : Int32) {p k : Nat} (hp : p < 12) (hk : k < 12) : bt (x &&& (jk_bit p ^^^ (-1))) k = (bt x k && decide (k ≠ p)) := by
  rw [bt_and, bt_not _ (by omega), bt_bit (by omega) (by omega)]
  by_cases q : k = p <;> simp [q]
theorem bt_set (x : Int32) {p k : Nat} (hp : p < 12) (hk : k < 12) : bt (x ||| jk_bit p) k = (bt x k || decide (k = p)) := by
  rw [bt_or, bt_bit (by omega) (by omega)]
section
variable {rc : Nat → Nat × (Nat → Int32)} {h : jxH} {a t : Nat} {f g : jF} {m : jM} {sg : Int32}
theorem jF_has_neg {p : Int32} (hp : p < 0) : jF_has f p = false := by unfold jF_has; rw [if_pos hp]
theorem st_blowDown (H : st_at h t m sg) (G : fo_at h a f) (B : jf_B f) (ht : t < a ∨ a + 3 ≤ t) {p : Nat} (hp : p < 12) (hb : bt f.2.2 p = true) (hm : m.2.1 = Int32.ofNat p) : ∃ h', (∀ d, jx_C rc (d + 3) 291 [.ref t, .ref a] h = some (none, h')) ∧ fo_at h' a (jf_down f p) ∧ Fr (jI a 3) h h' := by
  obtain ⟨h1, r1, r2, r3⟩ := fo_remove (rc := rc) G hp hb
  have g1 : jx_gI (jx_at h t) 6 1 = some (Int32.ofNat p) := hm ▸ st_g1 H
  have hP : ¬ jI a 3 t := fun q => by unfold jI at q; omega
  unfold jf_down
  cases e1 : lo (f.2.1 p) with
  | none =>
    have e2 : hi (f.2.1 p) = none := hi_none.mpr (lo_none.mp e1)
    simp only []
    refine ⟨h1, fun d => ?_, r2, r3⟩
    rw [je_291, if_pos (st_is H), g1, jk_bs, fo_weightAt G, jk_cI, g1, jk_bs, fo_nearsAt G, jk_cI, cl_leastOf, jk_cI, cl_greatestOf, jk_cI, g1, jk_bs, r1, jk_cV, jF_n_of hp, e1, e2]
    rw [fo_addWeight_no r2 (jF_has_neg (show jk_on none < 0 by decide)), jk_cV]
    rfl
  | some x =>
    obtain ⟨x1, x2, x3⟩ := lo_some.mp e1
    obtain ⟨y, e2⟩ := bc_hi (x := f.2.1 p) (by
      unfold bc
      exact List.countP_pos_iff.mpr ⟨x, List.mem_range.mpr x1, x2⟩)
    obtain ⟨y1, y2, y3⟩ := hi_some.mp e2
    obtain ⟨-, nx, ne, -⟩ := B.nb hp x2
    obtain ⟨-, ny, ne', -⟩ := B.nb hp y2
    rw [e2]
    simp only []
    obtain ⟨h2, s1, s2, s3⟩ := fo_addWeight (rc := rc) r2 x1 (show bt (f.2.2 &&& (jk_bit p ^^^ (-1))) x = true by rw [bt_clr _ hp x1, nx]; simp [ne]) (-(f.1 p))
    by_cases hxy : x = y
    · rw [if_pos hxy]
      refine ⟨h2, fun d => ?_, s2, r3.trans s3⟩
      rw [je_291, if_pos (st_is H), g1, jk_bs, fo_weightAt G, jk_cI, g1, jk_bs, fo_nearsAt G, jk_cI, cl_leastOf, jk_cI, cl_greatestOf, jk_cI, g1, jk_bs, r1, jk_cV, jF_n_of hp, jF_w_of hp, e1, e2]
      show jx_cV (jx_C rc (d + 2) 238 [.ref a, .int (Int32.ofNat x), .int (-f.1 p)] h1) _ = _
      rw [s1, jk_cV, hxy, if_pos rfl]
    · rw [if_neg hxy]
      obtain ⟨h3, u1, u2, u3⟩ := fo_addWeight (rc := rc) s2 y1 (show bt (f.2.2 &&& (jk_bit p ^^^ (-1))) y = true by rw [bt_clr _ hp y1, ny]; simp [ne']) (-(f.1 p))
      obtain ⟨h4, v1, v2, v3⟩ := fo_join (rc := rc) u2 x1 y1
      refine ⟨h4, fun d => ?_, v2, (r3.trans s3).trans (u3.trans v3)⟩
      rw [je_291, if_pos (st_is H), g1, jk_bs, fo_weightAt G, jk_cI, g1, jk_bs, fo_nearsAt G, jk_cI, cl_leastOf, jk_cI, cl_greatestOf, jk_cI, g1, jk_bs, r1, jk_cV, jF_n_of hp, jF_w_of hp, e1, e2]
      show jx_cV (jx_C rc (d + 2) 238 [.ref a, .int (Int32.ofNat x), .int (-f.1 p)] h1) _ = _
      rw [s1, jk_cV, if_neg (show ¬ jk_on (some x) = jk_on (some y) from fun q => hxy ((jk_inj (by omega) (by omega)).mp q))]
      show jx_cV (jx_C rc (d + 2) 238 [.ref a, .int (Int32.ofNat y), .int (-f.1 p)] h2) _ = _
      rw [u1, jk_cV]
      show jx_cV (jx_C rc (d + 2) 241 [.ref a, .int (Int32.ofNat x), .int (Int32.ofNat y)] h3) _ = _
      rw [v1, jk_cV]
theorem st_bud (H : st_at h t m sg) (G : fo_at h a f) (ht : t < a ∨ a + 3 ≤ t) {p c : Nat} (hp : p < 12) (hb : bt f.2.2 p = true) (hm : m.2.1 = Int32.ofNat p) (hc : lo (f.2.2 ^^^ (-1)) = some c) : ∃ h', (∀ d, jx_C rc (d + 3) 292 [.ref t, .ref a] h = some (some (.int (Int32.ofNat c)), h')) ∧ fo_at h' a (jf_bud f p m.2.2.2.1) ∧ Fr (jI a 3) h h' := by
  obtain ⟨c1, c2, -⟩ := lo_not hc
  have hP : ¬ jI a 3 t := fun q => by unfold jI at q; omega
  obtain ⟨h1, r1, r2, r3⟩ := fo_grow (rc := rc) G hc m.2.2.2.1
  obtain ⟨h2, s1, s2, s3⟩ := fo_addWeight (rc := rc) r2 hp (show bt (f.2.2 ||| jk_bit c) p = true by rw [bt_set _ c1 hp, hb]; rfl) m.2.2.2.1
  obtain ⟨h3, u1, u2, u3⟩ := fo_join (rc := rc) s2 c1 hp
  have H1 := st_fr r3 hP H
  have H2 := st_fr s3 hP H1
  refine ⟨h3, fun d => ?_, ?_, (r3.trans s3).trans u3⟩
  · rw [je_292, if_pos (st_is H), st_g3 H, jk_bs, r1, jk_cI, st_g1 H1, jk_bs, st_g3 H1, jk_bs, hm, s1, jk_cV, st_g1 H2, jk_bs, hm, u1, jk_cV]
  · unfold jf_bud; rw [jf_free_of hc]; exact u2
theorem st_absorb (H : st_at h t m sg) (G : fo_at h a f) (B : jf_B f) (ht : t < a ∨ a + 3 ≤ t) {p : Nat} (hp : p < 12) (hb : bt f.2.2 p = true) (hm : m.2.1 = Int32.ofNat p) (h2n : bc (f.2.1 p) = 2) : ∃ h', (∀ d, jx_C rc (d + 3) 293 [.ref t, .ref a] h = some (none, h')) ∧ fo_at h' a (jf_absorb f p) ∧ Fr (jI a 3) h h' := by
  have hP : ¬ jI a 3 t := fun q => by unfold jI at q; omega
  have g1 : jx_gI (jx_at h t) 6 1 = some (Int32.ofNat p) := hm ▸ st_g1 H
  obtain ⟨x, e1⟩ := bc_lo (x := f.2.1 p) (by omega)
  obtain ⟨y, e2⟩ := bc_hi (x := f.2.1 p) (by omega)
  obtain ⟨x1, x2, x3⟩ := lo_some.mp e1
  obtain ⟨y1, y2, y3⟩ := hi_some.mp e2
  obtain ⟨-, nx, ne, -⟩ := B.nb hp x2
  obtain ⟨-, ny, ne', -⟩ := B.nb hp y2
  obtain ⟨h1, r1, r2, r3⟩ := fo_remove (rc := rc) G hp hb
  obtain ⟨h2, s1, s2, s3⟩ := fo_addWeight (rc := rc) r2 x1 (show bt (f.2.2 &&& (jk_bit p ^^^ (-1))) x = true by rw [bt_clr _ hp x1, nx]; simp [ne]) ((jf_rem f p).1 y)
  obtain ⟨h3, u1, u2, u3⟩ := fo_remove (rc := rc) s2 y1 (show bt (f.2.2 &&& (jk_bit p ^^^ (-1))) y = true by rw [bt_clr _ hp y1, ny]; simp [ne'])
  obtain ⟨h4, v1, v2, v3⟩ := fo_joinAll (rc := rc) u2 x1 ((jf_rem f p).2.1 y)
  refine ⟨h4, fun d => ?_, ?_, (r3.trans s3).trans (u3.trans v3)⟩
  · rw [je_293, if_pos (st_is H), g1, jk_bs, fo_nearsAt G, jk_cI, cl_leastOf, jk_cI, g1, jk_bs, fo_nearsAt G, jk_cI, cl_greatestOf, jk_cI, g1, jk_bs, r1, jk_cV, jF_n_of hp, e1, e2]
    show jx_cI (jx_C rc (d + 2) 229 [.ref a, .int (Int32.ofNat y)] h1) _ = _
    rw [fo_nearsAt r2, jk_cI]
    show jx_cI (jx_C rc (d + 2) 228 [.ref a, .int (Int32.ofNat y)] h1) _ = _
    rw [fo_weightAt r2, jk_cI, jF_n_of y1, jF_w_of y1]
    show jx_cV (jx_C rc (d + 2) 238 [.ref a, .int (Int32.ofNat x), .int ((jf_rem f p).1 y)] h1) _ = _
    rw [s1, jk_cV]
    show jx_cV (jx_C rc (d + 2) 245 [.ref a, .int (Int32.ofNat y)] h2) _ = _
    rw [u1, jk_cV]
    show jx_cV (jx_C rc (d + 2) 242 [.ref a, .int (Int32.ofNat x), .int ((jf_rem f p).2.1 y)] h3) _ = _
    rw [v1, jk_cV]
  · unfold jf_absorb; rw [e1, e2]; exact v2
theorem st_draw (H : st_at h t m sg) (G : fo_at h a f) (ht : t < a ∨ a + 3 ≤ t) {p z c : Nat} (hp : p < 12) (hb : bt f.2.2 p = true) (hm : m.2.1 = Int32.ofNat p) (hz : lo (f.2.2 ^^^ (-1)) = some z) (hc : lo ((f.2.2 ||| jk_bit z) ^^^ (-1)) = some c) : ∃ h', (∀ d, jx_C rc (d + 3) 294 [.ref t, .ref a] h = some (none, h')) ∧ fo_at h' a (jf_draw f p m.2.2.2.1 m.2.2.2.2) ∧ Fr (jI a 3) h h' := by
  have hP : ¬ jI a 3 t := fun q => by unfold jI at q; omega
  obtain ⟨z1, z2, -⟩ := lo_not hz
  obtain ⟨c1, c2, -⟩ := lo_not hc
  obtain ⟨h1, r1, r2, r3⟩ := fo_grow (rc := rc) G hz 0
  obtain ⟨h2, s1, s2, s3⟩ := fo_grow (rc := rc) r2 hc m.2.2.2.1
  obtain ⟨h3, u1, u2, u3⟩ := fo_addWeight (rc := rc) s2 hp (show bt ((f.2.2 ||| jk_bit z) ||| jk_bit c) p = true by rw [bt_set _ c1 hp, bt_set _ z1 hp, hb]; rfl) (-m.2.2.2.1)
  obtain ⟨h4, v1, v2, v3⟩ := fo_partAll (rc := rc) u2 hp m.2.2.2.2
  obtain ⟨h5, w1, w2, w3⟩ := fo_joinAll (rc := rc) v2 c1 m.2.2.2.2
  obtain ⟨h6, x1, x2, x3⟩ := fo_join (rc := rc) w2 hp z1
  obtain ⟨h7, y1, y2, y3⟩ := fo_join (rc := rc) x2 z1 c1
  have H1 := st_fr r3 hP H
  have H2 := st_fr s3 hP H1
  have H3 := st_fr u3 hP H2
  have H4 := st_fr v3 hP H3
  have H5 := st_fr w3 hP H4
  refine ⟨h7, fun d => ?_, ?_, ((r3.trans s3).trans (u3.trans v3)).trans ((w3.trans x3).trans y3)⟩
  · rw [je_294, if_pos (st_is H), r1, jk_cI, st_g3 H1, jk_bs, s1, jk_cI, st_g1 H2, jk_bs, st_g3 H2, jk_bs, hm, u1, jk_cV, st_g1 H3, jk_bs, st_g4 H3, jk_bs, hm, v1, jk_cV, st_g4 H4, jk_bs, w1, jk_cV, st_g1 H5, jk_bs, hm, x1, jk_cV, y1, jk_cV]
  · have e1 : jf_free f = z := jf_free_of hz
    have e2 : jf_free (jf_grow f z 0) = c := jf_free_of (f := jf_grow f z 0) hc
    unfold jf_draw; rw [e1, e2]; exact y2
theorem jf_ref_0 (e : jf_ref f false m = 0) (hk : m.1 = 0) : ∃ p, p < 12 ∧ m.2.1 = Int32.ofNat p ∧ bt f.2.2 p = true ∧ (f.1 p = 1 ∨ f.1 p = -1) ∧ bc (f.2.1 p) ≤ 2 := by
  unfold jf_ref at e
  rw [if_pos hk] at e
  by_cases h1 : jF_has f m.2.1 = true
  · rw [if_pos h1] at e
    obtain ⟨p, hp, e1, e2⟩ := jF_has_iff.mp h1
    rw [e1, jF_w_of hp, jF_n_of hp] at e
    split at e
    · rename_i q; exact ⟨p, hp, e1, e2, q.1, q.2⟩
    · exact absurd e (by decide)
  · rw [if_neg h1] at e; exact absurd e (by decide)
theorem jf_ref_1 (e : jf_ref f false m = 0) (hk : m.1 = 1) : ∃ p q, p < 12 ∧ q < 12 ∧ m.2.1 = Int32.ofNat p ∧ m.2.2.1 = Int32.ofNat q ∧ bt f.2.2 p = true ∧ bt f.2.2 q = true ∧ bt (f.2.1 p) q = true ∧ (m.2.2.2.1 = 1 ∨ m.2.2.2.1 = -1) ∧ bc f.2.2 < 12 := by
  unfold jf_ref at e
  rw [if_neg (by rw [hk]; decide), if_pos hk] at e
  split at e
  · rename_i q
    split at e
    · rename_i r
      split at e
      · exact absurd e (by decide)
      · rename_i z
        obtain ⟨p, hp, e1, e2⟩ := jF_has_iff.mp q.1
        obtain ⟨j, hj, e3, e4⟩ := jF_has_iff.mp q.2.1
        rw [e1, e3, jF_near_of hp hj] at r
        refine ⟨p, j, hp, hj, e1, e3, e2, e4, r, q.2.2, ?_⟩
        have : ¬ 12 ≤ bc f.2.2 := fun w => z (Or.inr w)
        omega
    · exact absurd e (by decide)
  · exact absurd e (by decide)
theorem jf_ref_2 (e : jf_ref f false m = 0) (hk : m.1 = 2) : ∃ p, p < 12 ∧ m.2.1 = Int32.ofNat p ∧ bt f.2.2 p = true ∧ (m.2.2.2.1 = 1 ∨ m.2.2.2.1 = -1) ∧ bc f.2.2 < 12 := by
  unfold jf_ref at e
  rw [if_neg (by rw [hk]; decide), if_neg (by rw [hk]; decide), if_pos hk] at e
  split at e
  · rename_i q
    split at e
    · exact absurd e (by decide)
    · rename_i z
      obtain ⟨p, hp, e1, e2⟩ := jF_has_iff.mp q.1
      refine ⟨p, hp, e1, e2, q.2, ?_⟩
      have : ¬ 12 ≤ bc f.2.2 := fun w => z (Or.inr w)
      omega
  · exact absurd e (by decide)
theorem jf_ref_3 (e : jf_ref f false m = 0) (hk : m.1 = 3) : (m.2.2.2.1 = 1 ∨ m.2.2.2.1 = -1) ∧ bc f.2.2 < 12 := by
  unfold jf_ref at e
  rw [if_neg (by rw [hk]; decide), if_neg (by rw [hk]; decide), if_neg (by rw [hk]; decide), if_pos hk] at e
  split at e
  · rename_i q
    split at e
    · exact absurd e (by decide)
    · rename_i z
      refine ⟨q, ?_⟩
      have : ¬ 12 ≤ bc f.2.2 := fun w => z (Or.inr w)
      omega
  · exact absurd e (by decide)
theorem jf_ref_4 (e : jf_ref f false m = 0) (hk : m.1 = 4) : ∃ p, p < 12 ∧ m.2.1 = Int32.ofNat p ∧ bt f.2.2 p = true ∧ f.1 p = 0 ∧ bc (f.2.1 p) = 2 := by
  unfold jf_ref at e
  rw [if_neg (by rw [hk]; decide), if_neg (by rw [hk]; decide), if_neg (by rw [hk]; decide), if_neg (by rw [hk]; decide), if_pos hk] at e
  by_cases h1 : jF_has f m.2.1 = true
  · rw [if_pos h1] at e
    obtain ⟨p, hp, e1, e2⟩ := jF_has_iff.mp h1
    rw [e1, jF_w_of hp, jF_n_of hp] at e
    split at e
    · rename_i q; exact ⟨p, hp, e1, e2, q.1, q.2⟩
    · exact absurd e (by decide)
  · rw [if_neg h1] at e; exact absurd e (by decide)
theorem jf_ref_5 (e : jf_ref f false m = 0) (hk : m.1 = 5) : ∃ p, p < 12 ∧ m.2.1 = Int32.ofNat p ∧ bt f.2.2 p = true ∧ f.1 p = 0 ∧ bc (f.2.1 p) = 1 := by
  unfold jf_ref at e
  rw [if_neg (by rw [hk]; decide), if_neg (by rw [hk]; decide), if_neg (by rw [hk]; decide), if_neg (by rw [hk]; decide), if_neg (by rw [hk]; decide), if_pos hk] at e
  by_cases h1 : jF_has f m.2.1 = true
  · rw [if_pos h1] at e
    obtain ⟨p, hp, e1, e2⟩ := jF_has_iff.mp h1
    rw [e1, jF_w_of hp, jF_n_of hp] at e
    split at e
    · rename_i q; exact ⟨p, hp, e1, e2, q.1, q.2⟩
    · exact absurd e (by decide)
  · rw [if_neg h1] at e; exact absurd e (by decide)
theorem jf_ref_7 (e : jf_ref f false m = 0) (hk : m.1 = 7) : ∃ p, p < 12 ∧ m.2.1 = Int32.ofNat p ∧ bt f.2.2 p = true ∧ jp_wt m.2.2.2.1 = true ∧ m.2.2.2.2 &&& (f.2.1 p ^^^ (-1)) = 0 ∧ bc f.2.2 < 11 := by
  unfold jf_ref at e
  rw [if_neg (by rw [hk]; decide), if_neg (by rw [hk]; decide), if_neg (by rw [hk]; decide), if_neg (by rw [hk]; decide), if_neg (by rw [hk]; decide), if_neg (by rw [hk]; decide), if_neg (by rw [hk]; decide), if_pos hk] at e
  split at e
  · rename_i q
    split at e
    · exact absurd e (by decide)
    · rename_i z
      obtain ⟨p, hp, e1, e2⟩ := jF_has_iff.mp q.1
      have q2 := q.2.2
      rw [e1, jF_n_of hp] at q2
      refine ⟨p, hp, e1, e2, q.2.1, q2, ?_⟩
      have : ¬ 11 ≤ bc f.2.2 := fun w => z (Or.inr w)
      omega
  · exact absurd e (by decide)
theorem jf_ref_k (e : jf_ref f false m = 0) : m.1 = 0 ∨ m.1 = 1 ∨ m.1 = 2 ∨ m.1 = 3 ∨ m.1 = 4 ∨ m.1 = 5 ∨ m.1 = 6 ∨ m.1 = 7 := by
  apply Classical.byContradiction
  intro q
  simp only [not_or] at q
  unfold jf_ref at e
  simp only [q, if_false] at e
  exact absurd e (by decide)
theorem bc_set {x : Int32} {z : Nat} (hz : z < 12) : bc (x ||| jk_bit z) ≤ bc x + 1 := by
  unfold bc
  have : ∀ l : List Nat, (∀ k ∈ l, k < 12) → l.Nodup → l.countP (bt (x ||| jk_bit z)) ≤ l.countP (bt x) + (if z ∈ l then 1 else 0) := by
    intro l
    induction l with
    | nil => intro _ _; simp
    | cons k l ih =>
      intro h1 h2
      have hk := h1 k (by simp)
      have i := ih (fun j hj => h1 j (by simp [hj])) (List.nodup_cons.mp h2).2
      have h3 := (List.nodup_cons.mp h2).1
      rw [List.countP_cons, List.countP_cons, bt_set _ hz hk]
      by_cases q : k = z
      · subst q
        simp [h3] at i ⊢
        cases bt x k <;> simp <;> omega
      · have q' : ¬ z = k := fun w => q w.symm
        simp [q, q', List.mem_cons] at i ⊢
        by_cases z' : z ∈ l <;> simp [z'] at i ⊢ <;> omega
  have := this (List.range 12) (fun k hk => List.mem_range.mp hk) List.nodup_range
  split at this <;> omega
/-- act() -/
theorem st_act (H : st_at h t m sg) (G : fo_at h a f) (B : jf_B f) (ht : t < a ∨ a + 3 ≤ t) (e : jf_ref f false m = 0) : ∃ h', (∀ d, jx_C rc (d + 4) 290 [.ref t, .ref a] h = some (none, h')) ∧ fo_at h' a (jf_act f m) ∧ Fr (jI a 3) h h' := by
  have hP : ¬ jI a 3 t := fun q => by unfold jI at q; omega
  rcases jf_ref_k e with hk | hk | hk | hk | hk | hk | hk | hk
  · obtain ⟨p, hp, e1, e2, -, -⟩ := jf_ref_0 e hk
    obtain ⟨h', i1, i2, i3⟩ := st_blowDown (rc := rc) H G B ht hp e2 e1
    refine ⟨h', fun d => ?_, ?_, i3⟩
    · rw [je_290, if_pos (st_is H), st_g0 H, jk_bs, hk, if_pos rfl, i1, jk_cV]
    · unfold jf_act; rw [if_pos hk, e1, pn_of hp]; exact i2
  · obtain ⟨p, q, hp, hq, e1, e3, e2, e4, e5, e6, e7⟩ := jf_ref_1 e hk
    obtain ⟨c, hc⟩ := bc_free e7
    obtain ⟨c1, c2, -⟩ := lo_not hc
    obtain ⟨h1, r1, r2, r3⟩ := fo_part (rc := rc) G hp hq
    have H1 := st_fr r3 hP H
    obtain ⟨h2, s1, s2, s3⟩ := fo_addWeight (rc := rc) r2 hq e4 m.2.2.2.1
    have H2 := st_fr s3 hP H1
    obtain ⟨h3, u1, u2, u3⟩ := st_bud (rc := rc) H2 s2 ht hp e2 e1 hc
    have H3 := st_fr u3 hP H2
    obtain ⟨h4, v1, v2, v3⟩ := fo_join (rc := rc) u2 c1 hq
    refine ⟨h4, fun d => ?_, ?_, (r3.trans s3).trans (u3.trans v3)⟩
    · rw [je_290, if_pos (st_is H), st_g0 H, jk_bs, hk, if_neg (by decide), if_pos (by decide), st_g1 H, jk_bs, st_g2 H, jk_bs, e1, e3, r1, jk_cV, st_g2 H1, jk_bs, st_g3 H1, jk_bs, e3, s1, jk_cV, u1, jk_cI, st_g2 H3, jk_bs, e3, v1, jk_cV]
    · unfold jf_act; rw [if_neg (by rw [hk]; decide), if_pos hk, e1, e3, pn_of hp, pn_of hq]; unfold jf_up; rw [jf_free_of hc]; exact v2
  · obtain ⟨p, hp, e1, e2, e3, e4⟩ := jf_ref_2 e hk
    obtain ⟨c, hc⟩ := bc_free e4
    obtain ⟨h', i1, i2, i3⟩ := st_bud (rc := rc) H G ht hp e2 e1 hc
    refine ⟨h', fun d => ?_, ?_, i3⟩
    · rw [je_290, if_pos (st_is H), st_g0 H, jk_bs, hk, if_neg (by decide), if_neg (by decide), if_pos (by decide), i1, jk_cI]
    · unfold jf_act; rw [if_neg (by rw [hk]; decide), if_neg (by rw [hk]; decide), if_pos hk, e1, pn_of hp]; exact i2
  · obtain ⟨e3, e4⟩ := jf_ref_3 e hk
    obtain ⟨c, hc⟩ := bc_free e4
    obtain ⟨h', i1, i2, i3⟩ := fo_grow (rc := rc) G hc m.2.2.2.1
    refine ⟨h', fun d => ?_, ?_, i3⟩
    · rw [je_290, if_pos (st_is H), st_g0 H, jk_bs, hk, if_neg (by decide), if_neg (by decide), if_neg (by decide), if_pos (by decide), st_g3 H, jk_bs, i1, jk_cI]
    · unfold jf_act; rw [if_neg (by rw [hk]; decide), if_neg (by rw [hk]; decide), if_neg (by rw [hk]; decide), if_pos hk, jf_free_of hc]; exact i2
  · obtain ⟨p, hp, e1, e2, -, e4⟩ := jf_ref_4 e hk
    obtain ⟨h', i1, i2, i3⟩ := st_absorb (rc := rc) H G B ht hp e2 e1 e4
    refine ⟨h', fun d => ?_, ?_, i3⟩
    · rw [je_290, if_pos (st_is H), st_g0 H, jk_bs, hk, if_neg (by decide), if_neg (by decide), if_neg (by decide), if_neg (by decide), if_pos (by decide), i1, jk_cV]
    · unfold jf_act; rw [if_neg (by rw [hk]; decide), if_neg (by rw [hk]; decide), if_neg (by rw [hk]; decide), if_neg (by rw [hk]; decide), if_pos hk, e1, pn_of hp]; exact i2
  · obtain ⟨p, hp, e1, e2, -, e4⟩ := jf_ref_5 e hk
    obtain ⟨x, hx⟩ := bc_lo (x := f.2.1 p) (by omega)
    obtain ⟨x1, x2, x3⟩ := lo_some.mp hx
    obtain ⟨-, nx, ne, -⟩ := B.nb hp x2
    obtain ⟨h1, r1, r2, r3⟩ := fo_remove (rc := rc) G x1 nx
    have H1 := st_fr r3 hP H
    obtain ⟨h2, s1, s2, s3⟩ := fo_remove (rc := rc) r2 hp (show bt (f.2.2 &&& (jk_bit x ^^^ (-1))) p = true by rw [bt_clr _ x1 hp, e2]; simp; exact fun q => ne q.symm)
    refine ⟨h2, fun d => ?_, ?_, r3.trans s3⟩
    · rw [je_290, if_pos (st_is H), st_g0 H, jk_bs, hk, if_neg (by decide), if_neg (by decide), if_neg (by decide), if_neg (by decide), if_neg (by decide), if_pos (by decide), st_g1 H, jk_bs, e1, fo_nearsAt G, jk_cI, cl_leastOf, jk_cI, jF_n_of hp, hx]
      show jx_cV (jx_C rc (d + 3) 245 [.ref a, .int (Int32.ofNat x)] h) _ = _
      rw [r1, jk_cV, st_g1 H1, jk_bs, e1, s1, jk_cV]
    · unfold jf_act; rw [if_neg (by rw [hk]; decide), if_neg (by rw [hk]; decide), if_neg (by rw [hk]; decide), if_neg (by rw [hk]; decide), if_neg (by rw [hk]; decide), if_pos hk, e1, pn_of hp]; unfold jf_split; rw [hx]; exact s2
  · obtain ⟨h', i1, i2, i3⟩ := fo_mirror (rc := rc) G
    refine ⟨h', fun d => ?_, ?_, i3⟩
    · rw [je_290, if_pos (st_is H), st_g0 H, jk_bs, hk, if_neg (by decide), if_neg (by decide), if_neg (by decide), if_neg (by decide), if_neg (by decide), if_neg (by decide), if_pos (by decide), i1, jk_cV]
    · unfold jf_act; rw [if_neg (by rw [hk]; decide), if_neg (by rw [hk]; decide), if_neg (by rw [hk]; decide), if_neg (by rw [hk]; decide), if_neg (by rw [hk]; decide), if_neg (by rw [hk]; decide), if_pos hk]; exact i2
  · obtain ⟨p, hp, e1, e2, -, -, e4⟩ := jf_ref_7 e hk
    obtain ⟨z, hz⟩ := bc_free (x := f.2.2) (by omega)
    obtain ⟨c, hc⟩ := bc_free (x := f.2.2 ||| jk_bit z) (by have := bc_set (x := f.2.2) (lo_not hz).1; omega)
    obtain ⟨h', i1, i2, i3⟩ := st_draw (rc := rc) H G ht hp e2 e1 hz hc
    refine ⟨h', fun d => ?_, ?_, i3⟩
    · rw [je_290, if_pos (st_is H), st_g0 H, jk_bs, hk, if_neg (by decide), if_neg (by decide), if_neg (by decide), if_neg (by decide), if_neg (by decide), if_neg (by decide), if_neg (by decide), if_pos (by decide), i1, jk_cV]
    · unfold jf_act; rw [if_neg (by rw [hk]; decide), if_neg (by rw [hk]; decide), if_neg (by rw [hk]; decide), if_neg (by rw [hk]; decide), if_neg (by rw [hk]; decide), if_neg (by rw [hk]; decide), if_neg (by rw [hk]; decide), e1, pn_of hp]; exact i2
end
