/-! plant() -/
def chZ (x y i : Nat) : Nat := (chN 1000 x y (Int32.ofNat i) 0).getD 0
def chM (x y : Nat) : Nat := (chN 1000 x y (-1) 0).getD 0
theorem jk_m1 {c : Nat} (hc : c < 2 ^ 31) : ¬ Int32.ofNat c = -1 := fun z => jk_nn hc (by rw [z]; decide)
theorem chN_many : ∀ (m x y c : Nat), y < x → y < m → c + y < 2000 → ∃ M, chN m x y (-1) c = some M ∧ c ≤ M ∧ M ≤ c + y ∧ (0 < y → c < M) ∧ ∀ j, c ≤ j → j < M → ∃ z, chN m x y (Int32.ofNat j) c = some z
  | 0, _, _, _, _, h, _ => by omega
  | m + 1, x, y, c, hx, hm, hc => by
    by_cases y0 : y = 0
    · refine ⟨c, ?_, by omega, by omega, by omega, fun j h1 h2 => by omega⟩
      unfold chN
      rw [if_pos y0, if_pos rfl]
    · have u := up_mul (x := x) (y := y) (by omega)
      obtain ⟨M, e, l1, l2, l3, l4⟩ := chN_many m y (up x y * y - x) (c + 1) (by omega) (by omega) (by omega)
      refine ⟨M, ?_, by omega, by omega, by omega, fun j h1 h2 => ?_⟩
      · unfold chN
        rw [if_neg y0, if_neg (jk_m1 (by omega))]
        exact e
      · unfold chN
        rw [if_neg y0]
        by_cases q : c = j
        · rw [if_pos (by rw [q])]
          exact ⟨_, rfl⟩
        · rw [if_neg (fun z => q ((jk_inj (by omega) (by omega)).mp z))]
          exact l4 j (by omega) h2
theorem ch_all {x y : Nat} (hx : x ≤ 999) (hy : 0 < y) (hyx : y < x) : chN 1000 x y (-1) 0 = some (chM x y) ∧ 0 < chM x y ∧ chM x y ≤ 999 ∧ ∀ j, j < chM x y → chN 1000 x y (Int32.ofNat j) 0 = some (chZ x y j) ∧ 0 < chZ x y j ∧ chZ x y j < 2000 := by
  obtain ⟨M, e, l1, l2, l3, l4⟩ := chN_many 1000 x y 0 hyx (by omega) (by omega)
  have eM : chM x y = M := by unfold chM; rw [e]; rfl
  rw [eM]
  refine ⟨e, l3 hy, by omega, fun j hj => ?_⟩
  obtain ⟨z, ez⟩ := l4 j (by omega) hj
  have eZ : chZ x y j = z := by unfold chZ; rw [ez]; rfl
  rw [eZ]
  have lz := chN_lt (c := 0) hx hyx (by omega) (fun _ => by omega) ez
  exact ⟨ez, lz.1, lz.2⟩
theorem jp_wt_z {z : Nat} (h : z < 2000) : jp_wt (-Int32.ofNat z) = decide (z ≤ 30) := by
  have e : (-Int32.ofNat z).toInt = -(z : Int) := by
    rw [Int32.toInt_neg, jk_int (by omega)]
    exact Int.bmod_eq_of_le (by omega) (by omega)
  by_cases q : z ≤ 30
  · rw [decide_eq_true q]
    exact jp_wt_iff.mpr ⟨by omega, by omega⟩
  · rw [decide_eq_false q]
    cases w : jp_wt (-Int32.ofNat z)
    · rfl
    · have := jp_wt_iff.mp w; omega
theorem jf_join_comm (f : jF) {p q : Nat} (h : p ≠ q) : jf_join f p q = jf_join f q p := by
  unfold jf_join
  congr 2
  funext k
  unfold upd
  by_cases a : k = p
  · subst a
    rw [if_neg h, if_pos rfl, if_pos rfl, if_neg h]
  · rw [if_neg a, if_neg a]
    by_cases b : k = q
    · subst b
      rw [if_pos rfl, if_neg a, if_pos rfl]
    · rw [if_neg b, if_neg b]
/-- what hangs in a line on the last one, from number i on -/
def jq_pl (w : Nat → Int32) : Nat → Nat → Nat → jF → jF
  | 0, _, _, f => f
  | m + 1, i, l, f => jq_pl w m (i + 1) (jf_free f) (jf_join (jf_grow f (jf_free f) (w i)) l (jf_free f))
def jq_wz (x y i : Nat) : Int32 := -Int32.ofNat (chZ x y i)
def jq_plant (f : jF) (x y : Nat) : jF := jq_pl (jq_wz x y) (chM x y - 1) 1 (jf_free f) (jf_grow f (jf_free f) (jq_wz x y 0))
def op_plant (σ : jSt) (a b : Int32) : Int32 × jSt := if jp_chain a b = true then (if Nat.gcd (pn a) (pn b) = 1 then (if chM (pn a) (pn b) + bc (sF σ).2.2 ≤ 12 then (if ∀ i, i < chM (pn a) (pn b) → chZ (pn a) (pn b) i ≤ 30 then (Int32.ofNat (jf_free (sF σ)), hand σ (jq_plant (sF σ) (pn a) (pn b))) else er σ 5) else er σ 4) else er σ 3) else er σ 1
theorem jf_W_line {f : jF} (W : jf_W f) {l : Nat} (hl : l < 12) (sl : bt f.2.2 l = true) (hb : bc f.2.2 < 12) {x : Int32} (hx : jp_wt x = true) : jf_W (jf_join (jf_grow f (jf_free f) x) l (jf_free f)) ∧ bt (jf_join (jf_grow f (jf_free f) x) l (jf_free f)).2.2 (jf_free f) = true ∧ bc (jf_join (jf_grow f (jf_free f) x) l (jf_free f)).2.2 = bc f.2.2 + 1 ∧ jf_free f < 12 ∧ lo (f.2.2 ^^^ (-1)) = some (jf_free f) := by
  obtain ⟨c, hc⟩ := bc_free hb
  rw [jf_free_of hc]
  obtain ⟨c1, c2, -⟩ := lo_not hc
  have ne : l ≠ c := fun q => by rw [← q, sl] at c2; cases c2
  refine ⟨?_, ?_, bc_set_eq c1 c2, c1, hc⟩
  · rw [jf_join_comm _ ne]
    exact jf_W_hang W hc hx hl sl
  · show bt (f.2.2 ||| jk_bit c) c = true
    rw [bt_set _ c1 c1]; simp
theorem jq_pl_W (w : Nat → Int32) {M : Nat} (hw : ∀ i, i < M → jp_wt (w i) = true) : ∀ (m i l : Nat) (f : jF), i + m = M → jf_W f → l < 12 → bt f.2.2 l = true → bc f.2.2 + m ≤ 12 → jf_W (jq_pl w m i l f)
  | 0, _, _, _, _, W, _, _, _ => W
  | m + 1, i, l, f, e, W, hl, sl, hb => by
    obtain ⟨W1, s1, b1, l1, -⟩ := jf_W_line W hl sl (by omega) (hw i (by omega))
    exact jq_pl_W w hw m (i + 1) _ _ (by omega) W1 l1 s1 (by omega)
section
variable {rc : Nat → Nat × (Nat → Int32)} {h h' : jxH} {σ : jSt} {P : Nat → Prop}
theorem cl_chZ {x y : Nat} (hx : x ≤ 999) (hy : 0 < y) (hyx : y < x) (d : Nat) : (∀ j, j < chM x y → jx_C rc (d + 1) 70 [.int (Int32.ofNat x), .int (Int32.ofNat y), .int (Int32.ofNat j)] h = some (some (.int (Int32.ofNat (chZ x y j))), h)) ∧ jx_C rc (d + 1) 70 [.int (Int32.ofNat x), .int (Int32.ofNat y), .int (-1)] h = some (some (.int (Int32.ofNat (chM x y))), h) := by
  have L := fun i => cl_chain_l (rc := rc) (h := h) d i 1000 x y 0 hx hyx (by omega) (by omega)
  exact ⟨fun j _ => (je_70 ..).trans (L _), (je_70 ..).trans (L _)⟩
theorem rf_chZ {x y : Nat} (hx : x ≤ 999) (hy : 0 < y) (hyx : y < x) (d : Nat) : (∀ j, j < chM x y → jx_C rc (d + 1) 151 [.int (Int32.ofNat x), .int (Int32.ofNat y), .int (Int32.ofNat j)] h = some (some (.int (Int32.ofNat (chZ x y j))), h)) ∧ jx_C rc (d + 1) 151 [.int (Int32.ofNat x), .int (Int32.ofNat y), .int (-1)] h = some (some (.int (Int32.ofNat (chM x y))), h) := by
  obtain ⟨a1, a2, a3, a4⟩ := ch_all hx hy hyx
  refine ⟨fun j hj => (je_151 ..).trans ?_, (je_151 ..).trans ?_⟩
  · rw [show (0 : Int32) = Int32.ofNat 0 from rfl, rf_chain_l (rc := rc) (h := h) d (i := Int32.ofNat j) ?_ 1000 x y 0 hx hyx (by omega), (a4 j hj).1]
    have := jk_ge (k := j) (by omega)
    rw [Int32.le_iff_toInt_le] at this ⊢
    have e0 : (0 : Int32).toInt = 0 := rfl
    have e1 : (-1 : Int32).toInt = -1 := rfl
    omega
  · rw [show (0 : Int32) = Int32.ofNat 0 from rfl, rf_chain_l (rc := rc) (h := h) d (i := -1) (by decide) 1000 x y 0 hx hyx (by omega), a1]
theorem cc_pl_1 {x y : Nat} (hx : x ≤ 999) (hy : 0 < y) (hyx : y < x) (C : CSt h σ) (d : Nat) : ∀ (m k : Nat), k + m = chM x y → (∀ i, k ≤ i → i < chM x y → chZ x y i ≤ 30) → jb_24 rc (d + 1) 38 [(0, .ref 0), (1, .int (Int32.ofNat x)), (2, .int (Int32.ofNat y)), (3, .int (Int32.ofNat (chM x y))), (4, .int (Int32.ofNat k))] [] h = jb_24 rc (d + 1) 38 [(0, .ref 0), (1, .int (Int32.ofNat x)), (2, .int (Int32.ofNat y)), (3, .int (Int32.ofNat (chM x y))), (4, .int (Int32.ofNat (chM x y)))] [] h
  | 0, k, e, _ => by rw [show k = chM x y by omega]
  | m + 1, k, e, H => by
    obtain ⟨a1, a2, a3, a4⟩ := ch_all hx hy hyx
    rw [je_24_38, if_neg (by rw [jk_le (by omega) (by omega)]; omega), (cl_chZ hx hy hyx d).1 k (by omega), jk_cI, cl_isWeight, jk_cI, jk_if0, jp_wt_z (a4 k (by omega)).2.2, if_pos (decide_eq_true (H k (by omega) (by omega))), jk_succ]
    exact cc_pl_1 hx hy hyx C d m (k + 1) (by omega) (fun i h1 h2 => H i (by omega) h2)
theorem cc_pl_2 {x y : Nat} (hx : x ≤ 999) (hy : 0 < y) (hyx : y < x) {r : Int32} (E : ∀ d, jx_C rc (d + 1) 53 [.ref 0, .int 5] h = some (some (.int r), h')) (d : Nat) : ∀ (m k : Nat), k + m = chM x y → (∃ i, k ≤ i ∧ i < chM x y ∧ ¬ chZ x y i ≤ 30) → jb_24 rc (d + 1) 38 [(0, .ref 0), (1, .int (Int32.ofNat x)), (2, .int (Int32.ofNat y)), (3, .int (Int32.ofNat (chM x y))), (4, .int (Int32.ofNat k))] [] h = some (some (.int r), h')
  | 0, k, e, H => by obtain ⟨i, h1, h2, h3⟩ := H; omega
  | m + 1, k, e, H => by
    obtain ⟨a1, a2, a3, a4⟩ := ch_all hx hy hyx
    rw [je_24_38, if_neg (by rw [jk_le (by omega) (by omega)]; omega), (cl_chZ hx hy hyx d).1 k (by omega), jk_cI, cl_isWeight, jk_cI, jk_if0, jp_wt_z (a4 k (by omega)).2.2]
    by_cases q : chZ x y k ≤ 30
    · rw [if_pos (decide_eq_true q), jk_succ]
      refine cc_pl_2 hx hy hyx E d m (k + 1) (by omega) ?_
      obtain ⟨i, h1, h2, h3⟩ := H
      refine ⟨i, ?_, h2, h3⟩
      rcases Nat.lt_or_ge k i with z | z
      · exact z
      · exact absurd (show i = k by omega) (fun w => h3 (w ▸ q))
    · rw [if_neg (by simpa using q), E, jk_cI]
theorem cc_pl_3 {x y : Nat} (hx : x ≤ 999) (hy : 0 < y) (hyx : y < x) (hz : ∀ i, i < chM x y → chZ x y i ≤ 30) {h0 : jxH} (C : CSt h0 σ) (A : AWt σ) (r : Int32) : ∀ (m k l : Nat) (g : jF) (h : jxH), k + m = chM x y → l < 12 → bt g.2.2 l = true → bc g.2.2 + m ≤ 12 → jf_W g → Fr (jI 2 3) h0 h → fo_at h 2 g → ∃ h', (∀ d, jb_24 rc (d + 2) 67 [(0, .ref 0), (1, .int (Int32.ofNat x)), (2, .int (Int32.ofNat y)), (3, .int (Int32.ofNat (chM x y))), (4, .int r), (5, .int (Int32.ofNat l)), (6, .int (Int32.ofNat k))] [] h = some (some (.int r), h')) ∧ CSt h' (hand σ (jq_pl (jq_wz x y) m k l g)) ∧ cF h0 h'
  | 0, k, l, g, h, e, hl, sl, hb, W, F, G => by
    obtain ⟨a1, a2, a3, a4⟩ := ch_all hx hy hyx
    obtain ⟨h1, r1, r2, r3, r4, r5⟩ := cc_hand (rc := rc) (h1 := h) C A F (fun x q => Or.inl ⟨q.1, by have := q.2; omega⟩) G (scr_fr F (fun x q z => by unfold c_scrP at q; have := z.1; have := z.2; omega) C.scr)
    have g4 : jx_gR (jx_at h 0) 11 4 = some 12 := by rw [F.2.2 0 (fun z => by have := z.1; omega)]; exact C.g4
    refine ⟨h1, fun d => ?_, r2, r3⟩
    rw [je_24_67, if_pos (by rw [jk_le (by omega) (by omega)]; omega), g4, jk_bs, r1, jk_cV]
  | m + 1, k, l, g, h, e, hl, sl, hb, W, F, G => by
    obtain ⟨a1, a2, a3, a4⟩ := ch_all hx hy hyx
    have g1 : ∀ {h'}, Fr (jI 2 3) h0 h' → jx_gR (jx_at h' 0) 11 1 = some 2 := fun F => by rw [F.2.2 0 (fun z => by have := z.1; omega)]; exact C.g1
    obtain ⟨W1, s1, b1, l1, hc⟩ := jf_W_line W hl sl (by omega) (show jp_wt (jq_wz x y k) = true by unfold jq_wz; rw [jp_wt_z (a4 k (by omega)).2.2]; exact decide_eq_true (hz k (by omega)))
    obtain ⟨h1, t1, t2, t3⟩ := fo_grow (rc := rc) G hc (jq_wz x y k)
    obtain ⟨h2, u1, u2, u3⟩ := fo_join (rc := rc) t2 hl l1
    have F2 := (F.trans t3).trans u3
    obtain ⟨h3, v1, v2, v3⟩ := cc_pl_3 hx hy hyx hz C A r m (k + 1) (jf_free g) _ h2 (by omega) l1 s1 (by omega) W1 F2 u2
    refine ⟨h3, fun d => ?_, v2, v3⟩
    have t1' := t1 d
    unfold jq_wz at t1'
    rw [je_24_67, if_neg (by rw [jk_le (by omega) (by omega)]; omega), g1 F, jk_bs, (cl_chZ hx hy hyx (d + 1)).1 k (by omega), jk_cI, t1', jk_cI, g1 (F.trans t3), jk_bs, u1, jk_cV, jk_succ]
    exact v1 d
theorem cc_plant (C : CSt h σ) (A : AWt σ) (a b : Int32) : ∃ h', (∀ d, jx_C rc (d + 20) 24 [.ref 0, .int a, .int b] h = some (some (.int (op_plant σ a b).1), h')) ∧ CSt h' (op_plant σ a b).2 ∧ cF h h' := by
  unfold op_plant
  obtain ⟨e', e1, e2, e3⟩ := cc_refuse (rc := rc) C A (k := 1) (by decide) (by decide) (K := 1) rfl
  by_cases c0 : jp_chain a b = true
  · rw [if_pos c0]
    obtain ⟨x, y, rfl, rfl, hx, hy, hyx⟩ := jp_chain_iff.mp c0
    rw [show pn (Int32.ofNat x) = x from jk_cl (by omega), show pn (Int32.ofNat y) = y from jk_cl (by omega)]
    obtain ⟨a1, a2, a3, a4⟩ := ch_all hx hy hyx
    have G := fun d => cl_gcd (rc := rc) (h := h) d (ab_32 (a := x) (by omega)).2 (ab_32 (a := y) (by omega)).2
    rw [(ab_32 (a := x) (by omega)).1, (ab_32 (a := y) (by omega)).1] at G
    have g1 := (gcd_1 (a := x) (b := y) (by omega) (by omega)).1
    by_cases cg : Nat.gcd x y = 1
    · rw [if_pos cg]
      have b12 := bc_le (sF σ).2.2
      have st : ∀ d, jx_C rc (d + 20) 24 [.ref 0, .int (Int32.ofNat x), .int (Int32.ofNat y)] h = _ := fun d => by
        rw [je_24, if_pos C.is, cl_isChain, jk_cI, jk_if0, if_pos c0, G, jk_cL, if_pos (g1.mp cg), (cl_chZ hx hy hyx (d + 18)).2, jk_cI, C.g1, jk_bs, fo_size C.F A.B.s, jk_cI, show (12 : Int32) = Int32.ofNat 12 from rfl, jk_subN b12]
      by_cases cm : chM x y + bc (sF σ).2.2 ≤ 12
      · rw [if_pos cm]
        have st2 := fun d => (st d).trans (if_pos (by rw [jk_le (by omega) (by omega)]; omega))
        by_cases cz : ∀ i, i < chM x y → chZ x y i ≤ 30
        · rw [if_pos cz]
          obtain ⟨c, hc⟩ := bc_free (x := (sF σ).2.2) (by omega)
          obtain ⟨c1, c2, -⟩ := lo_not hc
          have hw : jp_wt (jq_wz x y 0) = true := by unfold jq_wz; rw [jp_wt_z (a4 0 (by omega)).2.2]; exact decide_eq_true (cz 0 (by omega))
          obtain ⟨h1, t1, t2, t3⟩ := fo_grow (rc := rc) C.F hc (jq_wz x y 0)
          obtain ⟨h3, v1, v2, v3⟩ := cc_pl_3 (rc := rc) hx hy hyx cz C A (Int32.ofNat c) (chM x y - 1) 1 c _ h1 (by omega) c1 (show bt ((sF σ).2.2 ||| jk_bit c) c = true by rw [bt_set _ c1 c1]; simp) (by rw [show bc (jf_grow (sF σ) c (jq_wz x y 0)).2.2 = bc (sF σ).2.2 + 1 from bc_set_eq c1 c2]; omega) (jf_W_grow A.W hc hw) t3 t2
          refine ⟨h3, fun d => ?_, ?_, v3⟩
          · refine (st2 d).trans ?_
            have p1 := cc_pl_1 (rc := rc) hx hy hyx C (d + 18) (chM x y) 0 (by omega) (fun i _ q => cz i q)
            refine p1.trans ?_
            have t1' := t1 (d + 17)
            unfold jq_wz at t1'
            rw [je_24_38, if_pos (by rw [jk_le (by omega) (by omega)]; omega), C.g1, jk_bs, show (0 : Int32) = Int32.ofNat 0 from rfl, (cl_chZ hx hy hyx (d + 18)).1 0 (by omega), jk_cI, t1', jk_cI, jf_free_of hc]
            exact v1 (d + 17)
          · unfold jq_plant
            rw [jf_free_of hc]
            exact v2
        · rw [if_neg cz]
          obtain ⟨f', f1, f2, f3⟩ := cc_refuse (rc := rc) C A (k := 5) (by decide) (by decide) (K := 5) rfl
          refine ⟨f', fun d => (st2 d).trans ?_, f2, f3⟩
          refine cc_pl_2 (rc := rc) hx hy hyx f1 (d + 18) (chM x y) 0 (by omega) ?_
          refine Classical.byContradiction fun q => cz fun i hi => Classical.byContradiction fun r => q ⟨i, by omega, hi, r⟩
      · rw [if_neg cm]
        obtain ⟨f', f1, f2, f3⟩ := cc_refuse (rc := rc) C A (k := 4) (by decide) (by decide) (K := 4) rfl
        refine ⟨f', fun d => ?_, f2, f3⟩
        rw [st d, if_neg (by rw [jk_le (by omega) (by omega)]; omega), f1, jk_cI]
    · rw [if_neg cg]
      obtain ⟨f', f1, f2, f3⟩ := cc_refuse (rc := rc) C A (k := 3) (by decide) (by decide) (K := 3) rfl
      refine ⟨f', fun d => ?_, f2, f3⟩
      rw [je_24, if_pos C.is, cl_isChain, jk_cI, jk_if0, if_pos c0, G, jk_cL, if_neg (fun z => cg (g1.mpr z)), f1, jk_cI]
  · rw [if_neg c0]
    refine ⟨e', fun d => ?_, e2, e3⟩
    rw [je_24, if_pos C.is, cl_isChain, jk_cI, jk_if0, if_neg c0, e1, jk_cI]
theorem aa_plant (A : AWt σ) (a b : Int32) : AWt (op_plant σ a b).2 := by
  unfold op_plant
  split
  · rename_i c0
    obtain ⟨x, y, rfl, rfl, hx, hy, hyx⟩ := jp_chain_iff.mp c0
    rw [show pn (Int32.ofNat x) = x from jk_cl (by omega), show pn (Int32.ofNat y) = y from jk_cl (by omega)]
    obtain ⟨a1, a2, a3, a4⟩ := ch_all hx hy hyx
    split
    · split
      · rename_i cm
        split
        · rename_i cz
          refine aa_hand A ?_
          obtain ⟨c, hc⟩ := bc_free (x := (sF σ).2.2) (by omega)
          obtain ⟨c1, c2, -⟩ := lo_not hc
          unfold jq_plant
          rw [jf_free_of hc]
          have hw : ∀ i, i < chM x y → jp_wt (jq_wz x y i) = true := fun i hi => by unfold jq_wz; rw [jp_wt_z (a4 i hi).2.2]; exact decide_eq_true (cz i hi)
          exact jq_pl_W _ (M := chM x y) hw (chM x y - 1) 1 c _ (by omega) (jf_W_grow A.W hc (hw 0 (by omega))) c1 (show bt ((sF σ).2.2 ||| jk_bit c) c = true by rw [bt_set _ c1 c1]; simp) (by rw [show bc (jf_grow (sF σ) c (jq_wz x y 0)).2.2 = bc (sF σ).2.2 + 1 from bc_set_eq c1 c2]; omega)
        · exact aa_er A
      · exact aa_er A
    · exact aa_er A
  · exact aa_er A
end
