/-! LINK: the reference's sums over sets of columns -/
set_option maxRecDepth 100000 in
theorem lw_all : (List.range 4096).all (fun n => match lo (Int32.ofNat n) with
    | some a => (Int32.ofNat n &&& (Int32.ofNat n - 1)) == (Int32.ofNat n &&& (jk_bit a ^^^ (-1)))
    | none => true) = true := by decide +kernel
theorem lw_eq {x : Int32} (hx : S12 x) {a : Nat} (h : lo x = some a) : x &&& (x - 1) = x &&& (jk_bit a ^^^ (-1)) := by
  obtain ⟨n, hn, rfl⟩ := S12_nat hx
  have := List.all_eq_true.mp lw_all n (List.mem_range.mpr hn)
  rw [h] at this
  exact eq_of_beq this
theorem sl_hd {S : Int32} {r : Nat} {l : List Nat} (h : sl S = r :: l) : lo S = some r ∧ sl (S &&& (jk_bit r ^^^ (-1))) = l := by
  have b : 0 < bc S := by rw [← sl_length, h]; exact Nat.succ_pos _
  obtain ⟨a, ha⟩ := bc_lo b
  have e := sl_low ha
  rw [h] at e
  injection e with e1 e2
  subst e1
  exact ⟨ha, e2.symm⟩
section
variable {rc : Nat → Nat × (Nat → Int32)} {h h' : jxH} {f : jF} {σ : jSt}
/-- place() -/
theorem rf_place_l {r : Nat} {l2 : List Nat} {n : Nat} (hn : n < 2 ^ 31) (d : Nat) : ∀ (l1 : List Nat) (S : Int32) (i : Nat), S12 S → sl S = l1 ++ r :: l2 → i + l1.length = n → jb_123 rc (d + 2) 4 [(1, .int (Int32.ofNat n)), (2, .int S), (3, .int (Int32.ofNat i))] [] h = some (some (.int (Int32.ofNat r)), h)
  | [], S, i, _, e, hi => by
    have hi : i = n := hi
    subst hi
    rw [je_123_4, if_pos (Int32.le_refl _), rf_lowest d (sl_hd e).1, jk_cI]
  | a :: l1, S, i, hS, e, hi => by
    obtain ⟨h1, h2⟩ := sl_hd e
    have hi : i + (l1.length + 1) = n := hi
    rw [je_123_4, if_neg (by rw [jk_le (by omega) (by omega)]; omega), lw_eq hS h1, jk_succ]
    exact rf_place_l hn d l1 _ (i + 1) (fun k hk => by rw [bt_and, hS k hk]; rfl) h2 (by omega)
theorem rf_place {r : Nat} {l1 l2 : List Nat} {S : Int32} (hS : S12 S) (e : sl S = l1 ++ r :: l2) (d : Nat) : jx_C rc (d + 3) 123 [.int S, .int (Int32.ofNat l1.length)] h = some (some (.int (Int32.ofNat r)), h) := by
  have b12 := bc_le S
  have len : l1.length ≤ bc S := by
    rw [← sl_length, e, List.length_append]; omega
  rw [je_123]
  exact rf_place_l (by omega) d l1 S 0 hS e (Nat.zero_add _)
-- from the last column on
def sU (S : Int32) : Nat → List Nat
  | 0 => []
  | m + 1 => if bt S (11 - m) = true then (11 - m) :: sU S m else sU S m
theorem sU_eq (S : Int32) : ∀ m, m ≤ 12 → sU S m = (List.range' (12 - m) m).filter (bt S)
  | 0, _ => rfl
  | m + 1, h => by
    have e : List.range' (12 - (m + 1)) (m + 1) = (11 - m) :: List.range' (12 - m) m := by
      rw [List.range'_succ]
      rw [show 12 - (m + 1) = 11 - m by omega, show 11 - m + 1 = 12 - m by omega]
    rw [e]
    show (if bt S (11 - m) = true then (11 - m) :: sU S m else sU S m) = _
    by_cases c : bt S (11 - m) = true
    · rw [if_pos c, List.filter_cons_of_pos c, sU_eq S m (by omega)]
    · rw [if_neg c, List.filter_cons_of_neg c, sU_eq S m (by omega)]
theorem sU_12 (S : Int32) : sU S 12 = sl S := by
  rw [sU_eq S 12 (Nat.le_refl _)]
  unfold sl
  rw [List.range_eq_range']
theorem sU_len (S : Int32) : ∀ m, (sU S m).length ≤ m
  | 0 => Nat.le_refl 0
  | m + 1 => by
    have := sU_len S m
    show (if bt S (11 - m) = true then (11 - m) :: sU S m else sU S m).length ≤ m + 1
    split
    · show (sU S m).length + 1 ≤ m + 1; omega
    · omega
/-- the reference, while it sums -/
def lO (h : jxH) (f : jF) : Prop := MO h ∧ ro_at h 338 f
abbrev jSu : Nat → Prop := fun x => x = 383
theorem lO_fr (F : Fr jSu h h') (E : lO h f) : lO h' f := ⟨MO.fr F (by decide) E.1, ro_fr F (by decide) E.2⟩
theorem MO.g7 (M : MO h) : jx_gR (jx_at h 336) 12 7 = some 383 := M.g 7 383 (by intros; rfl)
abbrev kW (f : jF) : Nat → Nat → Int := wA (ew f) (ec f)
theorem rf_pair (E : lO h f) {p q : Nat} (hp : p < 12) (hq : q < 12) (d : Nat) : ∃ v : Int32, jx_C rc (d + 1) 115 [.ref 336, .int (Int32.ofNat p), .int (Int32.ofNat q)] h = some (some (.int v), h) ∧ v.toInt64 = Int64.ofInt (kW f p q) := by
  by_cases z : p = q
  · refine ⟨f.1 p, ?_, ?_⟩
    · rw [je_115, if_pos E.1.is, if_pos (by rw [z]), E.1.g1, jk_bs, ro_w E.2 hp, jk_bs]
    · show _ = Int64.ofInt (if p = q then ew f p else ec f p q)
      rw [if_pos z]
      exact (Int64.ofInt_int32ToInt _).symm
  · refine ⟨jk_b (bt (f.2.1 p) q), ?_, ?_⟩
    · rw [je_115, if_pos E.1.is, if_neg (by rw [jk_inj (by omega) (by omega)]; exact z), E.1.g1, jk_bs, ro_n E.2 hp, jk_bs, bt_sr _ (by omega)]
    · show _ = Int64.ofInt (if p = q then ew f p else ec f p q)
      rw [if_neg z, ec_bit hp hq]
      cases bt (f.2.1 p) q <;> rfl
/-- the sum over one row -/
theorem rf_row_sum (E : lO h f) {g : Nat → Int64} (hg : jx_at h 383 = jxL 4096 g) {s r : Nat} (hs : s < 4096) (hr : r < 12) (dk : Int32 → Int) (hk : ∀ q, q < 12 → bt (Int32.ofNat s) q = true → ∃ m, m < 4096 ∧ Int32.ofNat s &&& (jk_bit q ^^^ (-1)) = Int32.ofNat m ∧ g m = Int64.ofInt (dk (Int32.ofNat s &&& (jk_bit q ^^^ (-1))))) (x3 x4 : Int32) (d : Nat) : ∀ (n : Nat), n ≤ 12 → jb_122 rc (d + 1) 63 [(0, .ref 336), (3, .int x3), (4, .int x4), (5, .int (Int32.ofNat s)), (6, .int (Int32.ofNat r)), (7, .long (Int64.ofInt (al (sU (Int32.ofNat s) (12 - n)) (fun q => kW f r q * dk (Int32.ofNat s &&& (jk_bit q ^^^ (-1))))))), (9, .int (Int32.ofNat (sU (Int32.ofNat s) (12 - n)).length)), (10, .int (Int32.ofNat n + (-1)))] [] h = jb_122 rc (d + 1) 40 [(0, .ref 336), (3, .int x3), (4, .int x4), (5, .int (Int32.ofNat (s + 1)))] [] (jx_set h 383 (jxL 4096 (vp_updL g s (Int64.ofInt (al (sl (Int32.ofNat s)) (fun q => kW f r q * dk (Int32.ofNat s &&& (jk_bit q ^^^ (-1)))))))))
  | 0, _ => by
    rw [je_122_63, if_pos (by decide), E.1.g7, jk_bs, hg, jk_sL hs (by decide), jk_bs, jk_succ, Nat.sub_zero, sU_12]
  | n + 1, hn => by
    have ih := rf_row_sum E hg hs hr dk hk x3 x4 d n (by omega)
    have em : 12 - n = (12 - (n + 1)) + 1 := by omega
    have e11 : 11 - (12 - (n + 1)) = n := by omega
    rw [em] at ih
    have eU : sU (Int32.ofNat s) (12 - (n + 1) + 1) = if bt (Int32.ofNat s) n = true then n :: sU (Int32.ofNat s) (12 - (n + 1)) else sU (Int32.ofNat s) (12 - (n + 1)) := by
      show (if bt (Int32.ofNat s) (11 - (12 - (n + 1))) = true then (11 - (12 - (n + 1))) :: _ else _) = _
      rw [e11]
    rw [eU] at ih
    have ul := sU_len (Int32.ofNat s) (12 - (n + 1))
    rw [je_122_63, jk_dec, if_neg (jk_nn (by omega)), rf_has _ _ (by omega), jk_cI, jk_if0]
    by_cases c : bt (Int32.ofNat s) n = true
    · rw [if_pos c] at ih
      obtain ⟨m, m1, m2, m3⟩ := hk n (by omega) c
      obtain ⟨v, v1, v2⟩ := rf_pair (rc := rc) E hr (show n < 12 by omega) d
      have two : ¬ (2 : Int32) = 0 := by decide
      have rd : jx_aL (jx_at h 383) (Int32.ofNat s &&& (((1 : Int32) <<< (Int32.ofNat n &&& 31)) ^^^ (-1))) = some (g m) := by
        show jx_aL (jx_at h 383) (Int32.ofNat s &&& (jk_bit n ^^^ (-1))) = some (g m)
        rw [m2, hg, jk_aL m1 (by decide)]
      have ea : al (n :: sU (Int32.ofNat s) (12 - (n + 1))) (fun q => kW f r q * dk (Int32.ofNat s &&& (jk_bit q ^^^ (-1)))) = (-1) ^ (sU (Int32.ofNat s) (12 - (n + 1))).length * (kW f r n * dk (Int32.ofNat s &&& (jk_bit n ^^^ (-1)))) + al (sU (Int32.ofNat s) (12 - (n + 1))) (fun q => kW f r q * dk (Int32.ofNat s &&& (jk_bit q ^^^ (-1)))) := rfl
      rw [ea] at ih
      have el : (n :: sU (Int32.ofNat s) (12 - (n + 1))).length = (sU (Int32.ofNat s) (12 - (n + 1))).length + 1 := rfl
      rw [el] at ih
      rw [if_pos c, v1, jk_cI, E.1.g7, jk_bs, rd, jk_bs, if_neg two, v2, m3, ← Int64.ofInt_mul, jk_succ]
      generalize (sU (Int32.ofNat s) (12 - (n + 1))).length = u at *
      generalize al (sU (Int32.ofNat s) (12 - (n + 1))) (fun q => kW f r q * dk (Int32.ofNat s &&& (jk_bit q ^^^ (-1)))) = y at *
      generalize kW f r n * dk (Int32.ofNat s &&& (jk_bit n ^^^ (-1))) = t at *
      have par := mx_al_ev (fun _ => t) (k := u)
      have par' := mx_al_od (fun _ => t) (k := u)
      unfold mx_al at par par'
      by_cases ev : u % 2 = 0
      · rw [if_pos ((jk_half u (by omega)).mpr ev), ← Int64.ofInt_add]
        rw [par ev] at ih
        rw [Int.add_comm t y] at ih
        exact ih
      · rw [if_neg (fun z => ev ((jk_half u (by omega)).mp z)), ← Int64.ofInt_neg, ← Int64.ofInt_add]
        rw [par' ev, Int.add_comm (-t) y] at ih
        exact ih
    · rw [if_neg c] at ih
      rw [if_neg c]
      exact ih
/-- what a set of columns comes to beside the first rows -/
def dK (f : jF) (R : Int32) (S : Int32) : Int := dt (kW f) ((sl R).take (bc S)).reverse (sl S)
theorem rf_sums_l {R C : Int32} (hR : S12 R) (hC : sub C f.2.2) (hC12 : S12 C) (hbc : bc C ≤ bc R) : ∀ (m n : Nat) (h : jxH) (g : Nat → Int64), n + m = 4096 → 0 < n → lO h f → jx_at h 383 = jxL 4096 g → (∀ j, j < n → sub (Int32.ofNat j) C → g j = Int64.ofInt (dK f R (Int32.ofNat j))) → ∃ h', (∀ d, jb_122 rc (d + 4) 40 [(0, .ref 336), (3, .int R), (4, .int C), (5, .int (Int32.ofNat n))] [] h = some (some (.long (Int64.ofInt (dK f R C))), h')) ∧ (∃ g, jx_at h' 383 = jxL 4096 g) ∧ Fr jSu h h'
  | 0, n, h, g, e, n0, E, H, hg => by
    obtain rfl : n = 4096 := by omega
    obtain ⟨c, c1, c2⟩ := S12_nat hC12
    refine ⟨h, fun d => ?_, ⟨g, H⟩, Fr.rfl⟩
    have := hg c c1 (by rw [← c2]; exact fun _ h => h)
    rw [← c2] at this
    rw [je_122_40, if_pos (by decide), E.1.g7, jk_bs, H, c2, jk_aL c1 (by decide), jk_bs, ← c2, this]
  | m + 1, n, h, g, e, n0, E, H, hg => by
    have ge : ¬ (4096 : Int32) ≤ Int32.ofNat n := by rw [show (4096 : Int32) = Int32.ofNat 4096 from rfl, jk_le (by decide) (by omega)]; omega
    by_cases c : Int32.ofNat n &&& (C ^^^ (-1)) = 0
    · have sc := sub_iff.mp c
      have n12 : S12 (Int32.ofNat n) := S12_ofNat (by omega)
      have b0 : 0 < bc (Int32.ofNat n) := by
        apply Classical.byContradiction; intro z
        have := bc_0 n12 (by omega)
        have : Int32.ofNat n = Int32.ofNat 0 := this
        rw [jk_inj (by omega) (by decide)] at this; omega
      have bn : bc (Int32.ofNat n) ≤ bc C := bc_mono (fun k _ hk => sc k hk)
      have b12 := bc_le C
      -- the row
      obtain ⟨k, hk⟩ : ∃ k, bc (Int32.ofNat n) = k + 1 := ⟨bc (Int32.ofNat n) - 1, by omega⟩
      have kl : k < (sl R).length := by rw [sl_length]; omega
      have spl : sl R = (sl R).take k ++ (sl R)[k] :: (sl R).drop (k + 1) := by
        rw [List.getElem_cons_drop, List.take_append_drop]
      have tl : ((sl R).take k).length = k := by rw [List.length_take]; omega
      have r12 : (sl R)[k] < 12 := (sl_mem.mp (List.getElem_mem kl)).1
      have pl : ∀ d, jx_C rc (d + 3) 123 [.int R, .int (Int32.ofNat k)] h = some (some (.int (Int32.ofNat (sl R)[k])), h) := fun d => by
        have := rf_place (rc := rc) (h := h) hR spl d
        rw [tl] at this
        exact this
      -- what the sets one less come to
      have less : ∀ q, q < 12 → bt (Int32.ofNat n) q = true → ∃ j, j < 4096 ∧ Int32.ofNat n &&& (jk_bit q ^^^ (-1)) = Int32.ofNat j ∧ g j = Int64.ofInt (dK f R (Int32.ofNat n &&& (jk_bit q ^^^ (-1)))) := fun q hq hb => by
        obtain ⟨j, j1, j2⟩ := clr_lt (n := n) (by omega) hq hb
        refine ⟨j, by omega, j2, ?_⟩
        rw [j2]
        refine hg j j1 ?_
        rw [← j2]
        exact sub_clr sc _
      have row := fun d => rf_row_sum (rc := rc) E H (show n < 4096 by omega) r12 (dK f R) less R C d 12 (Nat.le_refl _)
      have val : al (sl (Int32.ofNat n)) (fun q => kW f (sl R)[k] q * dK f R (Int32.ofNat n &&& (jk_bit q ^^^ (-1)))) = dK f R (Int32.ofNat n) := by
        unfold dK
        rw [hk, List.take_succ_eq_append_getElem kl, List.reverse_append]
        show _ = al (sl (Int32.ofNat n)) (fun q => kW f (sl R)[k] q * dt (kW f) ((sl R).take k).reverse ((sl (Int32.ofNat n)).erase q))
        refine al_congr (fun q hq => ?_)
        have mq := sl_mem.mp hq
        have := bc_clr_eq mq.1 mq.2
        rw [show bc (Int32.ofNat n &&& (jk_bit q ^^^ (-1))) = k by omega, sl_erase _ mq.1]
      rw [val] at row
      obtain ⟨h', r1, r2, r3⟩ := rf_sums_l hR hC hC12 hbc m (n + 1) (jx_set h 383 (jxL 4096 (vp_updL g n (Int64.ofInt (dK f R (Int32.ofNat n)))))) _ (by omega) (by omega) (lO_fr Fr.one E) (jk_at_self ..) (fun j hj hs => by
        by_cases z : j = n
        · rw [z, updL_at]
        · rw [updL_ne _ _ z]; exact hg j (by omega) hs)
      refine ⟨h', fun d => ?_, r2, Fr.one.trans r3⟩
      have row := row (d + 3)
      have z1 : sU (Int32.ofNat n) (12 - 12) = [] := rfl
      rw [z1] at row
      have row : jb_122 rc (d + 4) 63 [(0, .ref 336), (3, .int R), (4, .int C), (5, .int (Int32.ofNat n)), (6, .int (Int32.ofNat (sl R)[k])), (7, .long 0), (9, .int 0), (10, .int 11)] [] h = _ := row
      rw [je_122_40, if_neg ge, if_pos c, rf_many, jk_cI, hk, show Int32.ofNat (k + 1) - 1 = Int32.ofNat k from jk_pred k, pl, jk_cI]
      exact row.trans (r1 d)
    · obtain ⟨h', r1, r2, r3⟩ := rf_sums_l hR hC hC12 hbc m (n + 1) h g (by omega) (by omega) E H (fun j hj hs => by
        by_cases z : j = n
        · rw [z] at hs; exact absurd (sub_iff.mpr hs) c
        · exact hg j (by omega) hs)
      refine ⟨h', fun d => ?_, r2, r3⟩
      rw [je_122_40, if_neg ge, if_neg c, jk_succ]
      exact r1 d
theorem rf_sums_0 (p q : Int32) : ∀ (m n : Nat) (h : jxH) (g : Nat → Int64), n + m = 4096 → lO h f → jx_at h 383 = jxL 4096 g → (0 < n → g 0 = 1) → ∃ h' g', (∀ d, jb_122 rc d 2 [(0, .ref 336), (1, .int p), (2, .int q), (3, .int (Int32.ofNat n))] [] h = jb_122 rc d 2 [(0, .ref 336), (1, .int p), (2, .int q), (3, .int (Int32.ofNat 4096))] [] h') ∧ lO h' f ∧ jx_at h' 383 = jxL 4096 g' ∧ g' 0 = 1 ∧ Fr jSu h h'
  | 0, n, h, g, e, E, H, h0 => by
    obtain rfl : n = 4096 := by omega
    exact ⟨h, g, fun d => rfl, E, H, h0 (by omega), Fr.rfl⟩
  | m + 1, n, h, g, e, E, H, h0 => by
    have ge : ¬ (4096 : Int32) ≤ Int32.ofNat n := by rw [show (4096 : Int32) = Int32.ofNat 4096 from rfl, jk_le (by decide) (by omega)]; omega
    by_cases z : n = 0
    · subst z
      obtain ⟨h', g', r1, r2, r3, r4, r5⟩ := rf_sums_0 p q m 1 (jx_set h 383 (jxL 4096 (vp_updL g 0 1))) (vp_updL g 0 1) (by omega) (lO_fr Fr.one E) (jk_at_self ..) (fun _ => updL_at _ _ _)
      refine ⟨h', g', fun d => ?_, r2, r3, r4, Fr.one.trans r5⟩
      rw [je_122_2, if_neg ge, E.1.g7, jk_bs, if_pos (show Int32.ofNat 0 = 0 from rfl), H, jk_sL (by decide) (by decide), jk_bs, jk_succ]
      exact r1 d
    · obtain ⟨h', g', r1, r2, r3, r4, r5⟩ := rf_sums_0 p q m (n + 1) (jx_set h 383 (jxL 4096 (vp_updL g n 0))) (vp_updL g n 0) (by omega) (lO_fr Fr.one E) (jk_at_self ..) (fun _ => by
        rw [updL_ne _ _ (by omega)]; exact h0 (by omega))
      refine ⟨h', g', fun d => ?_, r2, r3, r4, Fr.one.trans r5⟩
      rw [je_122_2, if_neg ge, E.1.g7, jk_bs, if_neg (by rw [show (0 : Int32) = Int32.ofNat 0 from rfl, jk_inj (by omega) (by decide)]; exact z), H, jk_sL (by omega) (by decide), jk_bs, jk_succ]
      exact r1 d
/-- without() -/
theorem rr_without (R : RSt h σ) (A : AWt σ) {p q : Nat} (hp : p < 12) (hq : q < 12) (sp : bt (sF σ).2.2 p = true) (sq : bt (sF σ).2.2 q = true) : ∃ h', (∀ d, jx_C rc (d + 5) 122 [.ref 336, .int (Int32.ofNat p), .int (Int32.ofNat q)] h = some (some (.long (Int64.ofInt (dt (kW (sF σ)) ((sl (sF σ).2.2).erase p).reverse ((sl (sF σ).2.2).erase q)))), h')) ∧ RSt h' σ ∧ rF h h' := by
  obtain ⟨gm, hgm⟩ := R.scr.1
  obtain ⟨gs, hgs⟩ := R.scr.2.1
  obtain ⟨gt, hgt⟩ := R.scr.2.2.1
  have rowg := R.scr.2.2.2.2.1
  have B := A.B
  have E : lO h (sF σ) := ⟨R.M, R.F⟩
  obtain ⟨h1, g1, r1, r2, r3, r4, r5⟩ := rf_sums_0 (rc := rc) (Int32.ofNat p) (Int32.ofNat q) 4096 0 h gs rfl E hgs (fun z => by omega)
  have s12 : ∀ {k}, S12 ((sF σ).2.2 &&& (jk_bit k ^^^ (-1))) := fun {k} j hj => by rw [bt_and, B.s j hj]; rfl
  have ss : ∀ {k}, sub ((sF σ).2.2 &&& (jk_bit k ^^^ (-1))) (sF σ).2.2 := fun {k} j hj => by rw [bt_and] at hj; simp at hj; exact hj.1
  have b1 := bc_clr_eq hp sp
  have b2 := bc_clr_eq hq sq
  obtain ⟨h2, t1, t2, t3⟩ := rf_sums_l (rc := rc) (f := sF σ) (R := (sF σ).2.2 &&& (jk_bit p ^^^ (-1))) (C := (sF σ).2.2 &&& (jk_bit q ^^^ (-1))) s12 ss s12 (by omega) 4095 1 h1 g1 (by omega) (by omega) r2 r3 (fun j hj _ => by
    obtain rfl : j = 0 := by omega
    rw [r4]
    unfold dK
    have e0 : sl (Int32.ofNat 0) = [] := sl_0
    have b0 : bc (Int32.ofNat 0) = 0 := by decide
    rw [e0, b0]; rfl)
  have F := r5.trans t3
  obtain ⟨R', F'⟩ := rr_scr4 R A (F.mono (fun x hx => by have : x = 383 := hx; omega)) ⟨gm, (F.2.2 _ (by show ¬ (382 = 383); decide)).trans hgm⟩ t2 ⟨gt, (F.2.2 _ (by show ¬ (384 = 383); decide)).trans hgt⟩ (fun i hi => by
    obtain ⟨g, e⟩ := rowg i hi
    exact ⟨g, (F.2.2 _ (by show ¬ (386 + i = 383); omega)).trans e⟩)
  refine ⟨h2, fun d => ?_, R', F'⟩
  have r1 := r1 (d + 4)
  have t1 := t1 d
  rw [show Int32.ofNat 0 = (0 : Int32) from rfl] at r1
  rw [show Int32.ofNat 1 = (1 : Int32) from rfl] at t1
  rw [je_122, if_pos R.is, r1, je_122_2, if_pos (by decide), r2.1.g1, jk_bs, ro_0 r2.2, jk_bs, jk_bs, ro_0 r2.2, jk_bs]
  refine Eq.trans t1 ?_
  have e1 : dK (sF σ) ((sF σ).2.2 &&& (jk_bit p ^^^ (-1))) ((sF σ).2.2 &&& (jk_bit q ^^^ (-1))) = dt (kW (sF σ)) ((sl (sF σ).2.2).erase p).reverse ((sl (sF σ).2.2).erase q) := by
    unfold dK
    rw [← sl_erase _ hp, ← sl_erase _ hq, List.take_of_length_le (by rw [sl_length]; omega)]
  rw [e1]
end
