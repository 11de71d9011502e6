/-! The class's FOREST: what each of its methods answers and leaves -/
def jk_pc (x0 : Int32) : Int32 := ((((((((x0 - (((x0).toUInt32 >>> (((1 : Int32)).toUInt32 &&& Int32.toUInt32 31)).toInt32 &&& (1431655765 : Int32))) &&& (858993459 : Int32)) + ((((x0 - (((x0).toUInt32 >>> (((1 : Int32)).toUInt32 &&& Int32.toUInt32 31)).toInt32 &&& (1431655765 : Int32)))).toUInt32 >>> (((2 : Int32)).toUInt32 &&& Int32.toUInt32 31)).toInt32 &&& (858993459 : Int32))) + (((((x0 - (((x0).toUInt32 >>> (((1 : Int32)).toUInt32 &&& Int32.toUInt32 31)).toInt32 &&& (1431655765 : Int32))) &&& (858993459 : Int32)) + ((((x0 - (((x0).toUInt32 >>> (((1 : Int32)).toUInt32 &&& Int32.toUInt32 31)).toInt32 &&& (1431655765 : Int32)))).toUInt32 >>> (((2 : Int32)).toUInt32 &&& Int32.toUInt32 31)).toInt32 &&& (858993459 : Int32)))).toUInt32 >>> (((4 : Int32)).toUInt32 &&& Int32.toUInt32 31)).toInt32) &&& (252645135 : Int32)) + (((((((x0 - (((x0).toUInt32 >>> (((1 : Int32)).toUInt32 &&& Int32.toUInt32 31)).toInt32 &&& (1431655765 : Int32))) &&& (858993459 : Int32)) + ((((x0 - (((x0).toUInt32 >>> (((1 : Int32)).toUInt32 &&& Int32.toUInt32 31)).toInt32 &&& (1431655765 : Int32)))).toUInt32 >>> (((2 : Int32)).toUInt32 &&& Int32.toUInt32 31)).toInt32 &&& (858993459 : Int32))) + (((((x0 - (((x0).toUInt32 >>> (((1 : Int32)).toUInt32 &&& Int32.toUInt32 31)).toInt32 &&& (1431655765 : Int32))) &&& (858993459 : Int32)) + ((((x0 - (((x0).toUInt32 >>> (((1 : Int32)).toUInt32 &&& Int32.toUInt32 31)).toInt32 &&& (1431655765 : Int32)))).toUInt32 >>> (((2 : Int32)).toUInt32 &&& Int32.toUInt32 31)).toInt32 &&& (858993459 : Int32)))).toUInt32 >>> (((4 : Int32)).toUInt32 &&& Int32.toUInt32 31)).toInt32) &&& (252645135 : Int32))).toUInt32 >>> (((8 : Int32)).toUInt32 &&& Int32.toUInt32 31)).toInt32) + ((((((((x0 - (((x0).toUInt32 >>> (((1 : Int32)).toUInt32 &&& Int32.toUInt32 31)).toInt32 &&& (1431655765 : Int32))) &&& (858993459 : Int32)) + ((((x0 - (((x0).toUInt32 >>> (((1 : Int32)).toUInt32 &&& Int32.toUInt32 31)).toInt32 &&& (1431655765 : Int32)))).toUInt32 >>> (((2 : Int32)).toUInt32 &&& Int32.toUInt32 31)).toInt32 &&& (858993459 : Int32))) + (((((x0 - (((x0).toUInt32 >>> (((1 : Int32)).toUInt32 &&& Int32.toUInt32 31)).toInt32 &&& (1431655765 : Int32))) &&& (858993459 : Int32)) + ((((x0 - (((x0).toUInt32 >>> (((1 : Int32)).toUInt32 &&& Int32.toUInt32 31)).toInt32 &&& (1431655765 : Int32)))).toUInt32 >>> (((2 : Int32)).toUInt32 &&& Int32.toUInt32 31)).toInt32 &&& (858993459 : Int32)))).toUInt32 >>> (((4 : Int32)).toUInt32 &&& Int32.toUInt32 31)).toInt32) &&& (252645135 : Int32)) + (((((((x0 - (((x0).toUInt32 >>> (((1 : Int32)).toUInt32 &&& Int32.toUInt32 31)).toInt32 &&& (1431655765 : Int32))) &&& (858993459 : Int32)) + ((((x0 - (((x0).toUInt32 >>> (((1 : Int32)).toUInt32 &&& Int32.toUInt32 31)).toInt32 &&& (1431655765 : Int32)))).toUInt32 >>> (((2 : Int32)).toUInt32 &&& Int32.toUInt32 31)).toInt32 &&& (858993459 : Int32))) + (((((x0 - (((x0).toUInt32 >>> (((1 : Int32)).toUInt32 &&& Int32.toUInt32 31)).toInt32 &&& (1431655765 : Int32))) &&& (858993459 : Int32)) + ((((x0 - (((x0).toUInt32 >>> (((1 : Int32)).toUInt32 &&& Int32.toUInt32 31)).toInt32 &&& (1431655765 : Int32)))).toUInt32 >>> (((2 : Int32)).toUInt32 &&& Int32.toUInt32 31)).toInt32 &&& (858993459 : Int32)))).toUInt32 >>> (((4 : Int32)).toUInt32 &&& Int32.toUInt32 31)).toInt32) &&& (252645135 : Int32))).toUInt32 >>> (((8 : Int32)).toUInt32 &&& Int32.toUInt32 31)).toInt32)).toUInt32 >>> (((16 : Int32)).toUInt32 &&& Int32.toUInt32 31)).toInt32) &&& (63 : Int32))
set_option maxRecDepth 100000 in
theorem jk_pc_all : (List.range 4096).all (fun n => jk_pc (Int32.ofNat n) == Int32.ofNat ((List.range 12).countP fun k => n.testBit k)) = true := by decide +kernel
theorem jk_pc_bc {x : Int32} (hx : S12 x) : jk_pc x = Int32.ofNat (bc x) := by
  obtain ⟨n, hn, rfl⟩ := S12_nat hx
  have h := List.all_eq_true.mp jk_pc_all n (List.mem_range.mpr hn)
  rw [eq_of_beq h]
  unfold bc
  congr 1
  apply List.countP_congr
  intro k _
  rw [bt_ofNat hn]
section
variable {rc : Nat → Nat × (Nat → Int32)} {h : jxH} {a : Nat}
theorem jk_pop {x : Int32} (hx : S12 x) (d : Nat) : jx_C rc (d + 1) 328 [.int x] h = some (some (.int (Int32.ofNat (bc x))), h) := by
  rw [← jk_pc_bc hx, je_328]
  rfl
-- VERTICES with WEIGHTS, sets of NEIGHBOURS, the set of PLACES
abbrev jF := (Nat → Int32) × (Nat → Int32) × Int32
def fo_at (h : jxH) (a : Nat) (f : jF) : Prop := jx_at h a = jxO 1 [.ref (a + 1), .ref (a + 2), .int f.2.2] ∧ (∃ W : Nat → Int32, jx_at h (a + 1) = jxI 0 12 W ∧ ∀ k, k < 12 → W k = f.1 k) ∧ ∃ N : Nat → Int32, jx_at h (a + 2) = jxI 0 12 N ∧ ∀ k, k < 12 → N k = f.2.1 k
variable {f g : jF}
theorem fo_congr (H : fo_at h a f) (h1 : ∀ k, k < 12 → f.1 k = g.1 k) (h2 : ∀ k, k < 12 → f.2.1 k = g.2.1 k) (h3 : f.2.2 = g.2.2) : fo_at h a g := by
  obtain ⟨o, ⟨W, w1, w2⟩, N, n1, n2⟩ := H
  exact ⟨h3 ▸ o, ⟨W, w1, fun k hk => (w2 k hk).trans (h1 k hk)⟩, N, n1, fun k hk => (n2 k hk).trans (h2 k hk)⟩
theorem fo_fr {P : Nat → Prop} {h' : jxH} (F : Fr P h h') (hP : ∀ x, a ≤ x → x < a + 3 → ¬ P x) (H : fo_at h a f) : fo_at h' a f := by
  obtain ⟨o, ⟨W, w1, w2⟩, N, n1, n2⟩ := H
  exact ⟨(F.2.2 a (hP a (by omega) (by omega))).trans o, ⟨W, (F.2.2 _ (hP _ (by omega) (by omega))).trans w1, w2⟩, N, (F.2.2 _ (hP _ (by omega) (by omega))).trans n1, n2⟩
theorem fo_is (H : fo_at h a f) : jx_is (jx_at h a) 1 = true := by rw [H.1]; rfl
theorem fo_g0 (H : fo_at h a f) : jx_gR (jx_at h a) 1 0 = some (a + 1) := by rw [H.1]; rfl
theorem fo_g1 (H : fo_at h a f) : jx_gR (jx_at h a) 1 1 = some (a + 2) := by rw [H.1]; rfl
theorem fo_g2 (H : fo_at h a f) : jx_gI (jx_at h a) 1 2 = some f.2.2 := by rw [H.1]; rfl
theorem fo_w (H : fo_at h a f) {k : Nat} (hk : k < 12) : jx_aI (jx_at h (a + 1)) 0 (Int32.ofNat k) = some (f.1 k) := by
  obtain ⟨o, ⟨W, w1, w2⟩, N, n1, n2⟩ := H
  rw [w1, jk_aI hk (by decide), w2 k hk]
theorem fo_n (H : fo_at h a f) {k : Nat} (hk : k < 12) : jx_aI (jx_at h (a + 2)) 0 (Int32.ofNat k) = some (f.2.1 k) := by
  obtain ⟨o, ⟨W, w1, w2⟩, N, n1, n2⟩ := H
  rw [n1, jk_aI hk (by decide), n2 k hk]
theorem upd_lt {f g : Nat → Int32} {n : Nat} (e : ∀ k, k < n → f k = g k) (j : Nat) (x : Int32) : ∀ k, k < n → upd f j x k = upd g j x k := fun k hk => by
  unfold upd
  by_cases q : k = j
  · rw [if_pos q, if_pos q]
  · rw [if_neg q, if_neg q, e k hk]
theorem fo_sw (H : fo_at h a f) {k : Nat} (hk : k < 12) (x : Int32) : ∃ e, jx_sI (jx_at h (a + 1)) 0 (Int32.ofNat k) x = some e ∧ fo_at (jx_set h (a + 1) e) a (upd f.1 k x, f.2) := by
  obtain ⟨o, ⟨W, w1, w2⟩, N, n1, n2⟩ := H
  refine ⟨jxI 0 12 (upd W k x), by rw [w1, jk_sI hk (by decide)], ?_, ⟨upd W k x, jk_at_self .., upd_lt w2 k x⟩, N, ?_, n2⟩
  · rw [jk_at_ne _ _ (by omega)]; exact o
  · rw [jk_at_ne _ _ (by omega)]; exact n1
theorem fo_sn (H : fo_at h a f) {k : Nat} (hk : k < 12) (x : Int32) : ∃ e, jx_sI (jx_at h (a + 2)) 0 (Int32.ofNat k) x = some e ∧ fo_at (jx_set h (a + 2) e) a (f.1, upd f.2.1 k x, f.2.2) := by
  obtain ⟨o, ⟨W, w1, w2⟩, N, n1, n2⟩ := H
  refine ⟨jxI 0 12 (upd N k x), by rw [n1, jk_sI hk (by decide)], ?_, ⟨W, ?_, w2⟩, upd N k x, jk_at_self .., upd_lt n2 k x⟩
  · rw [jk_at_ne _ _ (by omega)]; exact o
  · rw [jk_at_ne _ _ (by omega)]; exact w1
theorem fo_ps (H : fo_at h a f) (s : Int32) : ∃ e, jx_pF (jx_at h a) 1 2 (.int s) = some e ∧ fo_at (jx_set h a e) a (f.1, f.2.1, s) := by
  obtain ⟨o, ⟨W, w1, w2⟩, N, n1, n2⟩ := H
  refine ⟨jxO 1 [.ref (a + 1), .ref (a + 2), .int s], by rw [o]; rfl, jk_at_self .., ⟨W, ?_, w2⟩, N, ?_, n2⟩
  · rw [jk_at_ne _ _ (by omega)]; exact w1
  · rw [jk_at_ne _ _ (by omega)]; exact n1
-- what it answers
def jF_has (f : jF) (p : Int32) : Bool := if p < 0 then false else if 12 ≤ p then false else bt f.2.2 p.toNatClampNeg
def jF_w (f : jF) (p : Int32) : Int32 := if p < 0 then 0 else if 12 ≤ p then 0 else f.1 p.toNatClampNeg
def jF_n (f : jF) (p : Int32) : Int32 := if p < 0 then 0 else if 12 ≤ p then 0 else f.2.1 p.toNatClampNeg
theorem jF_has_of {k : Nat} (hk : k < 12) : jF_has f (Int32.ofNat k) = bt f.2.2 k := by
  unfold jF_has; rw [if_neg (jk_nn (by omega)), if_neg (jk_n12 hk), jk_cl (by omega)]
theorem jF_w_of {k : Nat} (hk : k < 12) : jF_w f (Int32.ofNat k) = f.1 k := by
  unfold jF_w; rw [if_neg (jk_nn (by omega)), if_neg (jk_n12 hk), jk_cl (by omega)]
theorem jF_n_of {k : Nat} (hk : k < 12) : jF_n f (Int32.ofNat k) = f.2.1 k := by
  unfold jF_n; rw [if_neg (jk_nn (by omega)), if_neg (jk_n12 hk), jk_cl (by omega)]
theorem jF_has_iff {p : Int32} : jF_has f p = true ↔ ∃ k, k < 12 ∧ p = Int32.ofNat k ∧ bt f.2.2 k = true := by
  constructor
  · intro q
    unfold jF_has at q
    split at q
    · cases q
    · split at q
      · cases q
      · obtain ⟨k, hk, rfl⟩ := jk_place (by assumption) (by assumption)
        rw [jk_cl (by omega)] at q
        exact ⟨k, hk, rfl, q⟩
  · rintro ⟨k, hk, rfl, q⟩
    rw [jF_has_of hk]; exact q
theorem fo_has (H : fo_at h a f) (d : Nat) (p : Int32) : jx_C rc (d + 1) 226 [.ref a, .int p] h = some (some (.int (jk_b (jF_has f p))), h) := by
  rw [je_226, if_pos (fo_is H)]
  unfold jF_has
  split
  · rfl
  · split
    · rfl
    · obtain ⟨k, hk, rfl⟩ := jk_place (by assumption) (by assumption)
      rw [fo_g2 H, jk_bs, bt_sr _ (by omega), jk_cl (by omega)]
      cases bt f.2.2 k <;> rfl
theorem fo_size (H : fo_at h a f) (hs : S12 f.2.2) (d : Nat) : jx_C rc (d + 2) 227 [.ref a] h = some (some (.int (Int32.ofNat (bc f.2.2))), h) := by
  rw [je_227, if_pos (fo_is H), fo_g2 H, jk_bs, jk_pop hs, jk_cI]
theorem fo_weightAt (H : fo_at h a f) (d : Nat) (p : Int32) : jx_C rc (d + 1) 228 [.ref a, .int p] h = some (some (.int (jF_w f p)), h) := by
  rw [je_228, if_pos (fo_is H)]
  unfold jF_w
  split
  · rfl
  · split
    · rfl
    · obtain ⟨k, hk, rfl⟩ := jk_place (by assumption) (by assumption)
      rw [fo_g0 H, jk_bs, fo_w H hk, jk_bs, jk_cl (by omega)]
theorem fo_nearsAt (H : fo_at h a f) (d : Nat) (p : Int32) : jx_C rc (d + 1) 229 [.ref a, .int p] h = some (some (.int (jF_n f p)), h) := by
  rw [je_229, if_pos (fo_is H)]
  unfold jF_n
  split
  · rfl
  · split
    · rfl
    · obtain ⟨k, hk, rfl⟩ := jk_place (by assumption) (by assumption)
      rw [fo_g1 H, jk_bs, fo_n H hk, jk_bs, jk_cl (by omega)]
theorem fo_degree (H : fo_at h a f) (hn : ∀ k, k < 12 → S12 (f.2.1 k)) (d : Nat) (p : Int32) : jx_C rc (d + 2) 230 [.ref a, .int p] h = some (some (.int (Int32.ofNat (bc (jF_n f p)))), h) := by
  rw [je_230, if_pos (fo_is H)]
  unfold jF_n
  split
  · rfl
  · split
    · rfl
    · obtain ⟨k, hk, rfl⟩ := jk_place (by assumption) (by assumption)
      rw [fo_g1 H, jk_bs, fo_n H hk, jk_bs, jk_cl (by omega), jk_pop (hn k hk), jk_cI]
def jF_near (f : jF) (p q : Int32) : Bool := if p < 0 then false else if 12 ≤ p then false else if q < 0 then false else if 12 ≤ q then false else bt (f.2.1 p.toNatClampNeg) q.toNatClampNeg
theorem jF_near_of {k j : Nat} (hk : k < 12) (hj : j < 12) : jF_near f (Int32.ofNat k) (Int32.ofNat j) = bt (f.2.1 k) j := by
  unfold jF_near; rw [if_neg (jk_nn (by omega)), if_neg (jk_n12 hk), if_neg (jk_nn (by omega)), if_neg (jk_n12 hj), jk_cl (by omega), jk_cl (by omega)]
theorem fo_areNear (H : fo_at h a f) (d : Nat) (p q : Int32) : jx_C rc (d + 1) 231 [.ref a, .int p, .int q] h = some (some (.int (jk_b (jF_near f p q))), h) := by
  rw [je_231, if_pos (fo_is H)]
  unfold jF_near
  split
  · rfl
  · split
    · rfl
    · split
      · rfl
      · split
        · rfl
        · obtain ⟨k, hk, rfl⟩ := jk_place (x := p) (by assumption) (by assumption)
          obtain ⟨j, hj, rfl⟩ := jk_place (x := q) (by assumption) (by assumption)
          rw [fo_g1 H, jk_bs, fo_n H hk, jk_bs, bt_sr _ (by omega), jk_cl (by omega), jk_cl (by omega)]
          cases bt (f.2.1 k) j <;> rfl
-- sums over places
def jk_sum (g : Nat → Int32) : Nat → Int32
  | 0 => 0
  | n + 1 => jk_sum g n + g n
theorem jk_sum_congr {g g' : Nat → Int32} : ∀ (n : Nat), (∀ k, k < n → g k = g' k) → jk_sum g n = jk_sum g' n
  | 0, _ => rfl
  | n + 1, e => by
    show jk_sum g n + g n = jk_sum g' n + g' n
    rw [jk_sum_congr n (fun k hk => e k (by omega)), e n (by omega)]
theorem fo_edges_l (H : fo_at h a f) (hn : ∀ k, k < 12 → S12 (f.2.1 k)) (d : Nat) : ∀ (m k : Nat), k + m = 12 → jb_232 rc (d + 1) 4 [(0, .ref a), (1, .int (jk_sum (fun p => Int32.ofNat (bc (f.2.1 p))) k)), (2, .int (Int32.ofNat k))] [] h = some (some (.int (jk_sum (fun p => Int32.ofNat (bc (f.2.1 p))) 12 / 2)), h)
  | 0, k, e => by
    obtain rfl : k = 12 := by omega
    rw [je_232_4]; rfl
  | m + 1, k, e => by
    have hk : k < 12 := by omega
    rw [je_232_4, if_neg (jk_n12 hk), fo_g1 H, jk_bs, fo_n H hk, jk_bs, jk_pop (hn k hk), jk_cI, jk_succ]
    exact fo_edges_l H hn d m (k + 1) (by omega)
theorem fo_edges (H : fo_at h a f) (hn : ∀ k, k < 12 → S12 (f.2.1 k)) (d : Nat) : jx_C rc (d + 2) 232 [.ref a] h = some (some (.int (jk_sum (fun p => Int32.ofNat (bc (f.2.1 p))) 12 / 2)), h) := by
  rw [je_232, if_pos (fo_is H)]
  exact fo_edges_l H hn d 12 0 (by omega)
def jF_trees (f : jF) : Int32 := Int32.ofNat (bc f.2.2) - jk_sum (fun p => Int32.ofNat (bc (f.2.1 p))) 12 / 2
theorem fo_trees (H : fo_at h a f) (hs : S12 f.2.2) (hn : ∀ k, k < 12 → S12 (f.2.1 k)) (d : Nat) : jx_C rc (d + 3) 233 [.ref a] h = some (some (.int (jF_trees f)), h) := by
  rw [je_233, if_pos (fo_is H), fo_size H hs, jk_cI, fo_edges H hn, jk_cI]
  rfl
theorem fo_weightSum_l (H : fo_at h a f) (d : Nat) : ∀ (m k : Nat), k + m = 12 → jb_234 rc d 4 [(0, .ref a), (1, .int (jk_sum f.1 k)), (2, .int (Int32.ofNat k))] [] h = some (some (.int (jk_sum f.1 12)), h)
  | 0, k, e => by
    obtain rfl : k = 12 := by omega
    rw [je_234_4]; rfl
  | m + 1, k, e => by
    have hk : k < 12 := by omega
    rw [je_234_4, if_neg (jk_n12 hk), fo_g0 H, jk_bs, fo_w H hk, jk_bs, jk_succ]
    exact fo_weightSum_l H d m (k + 1) (by omega)
theorem fo_weightSum (H : fo_at h a f) (d : Nat) : jx_C rc (d + 1) 234 [.ref a] h = some (some (.int (jk_sum f.1 12)), h) := by
  rw [je_234, if_pos (fo_is H)]
  exact fo_weightSum_l H d 12 0 (by omega)
end
