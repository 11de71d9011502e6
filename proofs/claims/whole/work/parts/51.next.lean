/-! What a WORKER does NEXT -/
def fi (P : Nat → Bool) : Nat → Nat → Option Nat
  | 0, _ => none
  | m + 1, k => if P k then some k else fi P m (k + 1)
def la (P : Nat → Bool) : Nat → Option Nat
  | 0 => none
  | m + 1 => if P m then some m else la P m
theorem fi_congr {P Q : Nat → Bool} : ∀ {m k : Nat}, (∀ j, k ≤ j → j < k + m → P j = Q j) → fi P m k = fi Q m k
  | 0, _, _ => rfl
  | m + 1, k, h => by
    unfold fi
    rw [h k (Nat.le_refl _) (by omega), fi_congr (fun j a b => h j (by omega) (by omega))]
theorem la_congr {P Q : Nat → Bool} : ∀ {m : Nat}, (∀ j, j < m → P j = Q j) → la P m = la Q m
  | 0, _ => rfl
  | m + 1, h => by
    unfold la
    rw [h m (by omega), la_congr (fun j a => h j (by omega))]
theorem fi_some {P : Nat → Bool} : ∀ {m k j : Nat}, fi P m k = some j → k ≤ j ∧ j < k + m ∧ P j = true
  | 0, _, _, h => by cases h
  | m + 1, k, j, h => by
    unfold fi at h
    split at h
    · cases h; exact ⟨Nat.le_refl _, by omega, by assumption⟩
    · obtain ⟨a, b, c⟩ := fi_some h; exact ⟨by omega, by omega, c⟩
theorem la_some {P : Nat → Bool} : ∀ {m j : Nat}, la P m = some j → j < m ∧ P j = true
  | 0, _, h => by cases h
  | m + 1, j, h => by
    unfold la at h
    split at h
    · cases h; exact ⟨by omega, by assumption⟩
    · obtain ⟨a, c⟩ := la_some h; exact ⟨by omega, c⟩
def jn_ok (f : jF) (kind w : Int32) (m mn : Nat) (k : Nat) : Bool := decide (m ≤ k) && (decide (f.1 k = w) && (decide (bc (f.2.1 k) ≤ mn) && decide (jf_ref f false (kind, Int32.ofNat k, 0, 0, 0) = 0)))
def jn_seek (f : jF) (kind w : Int32) (m : Nat) (late : Bool) (mn : Nat) : Option Nat := if late then la (jn_ok f kind w m mn) 12 else fi (jn_ok f kind w m mn) 12 0
def jn_mk (kind : Int32) : Option Nat → Option (Int32 × Nat)
  | some k => some (kind, k)
  | none => none
def jn_or (a b : Option (Int32 × Nat)) : Option (Int32 × Nat) := match a with
  | some x => some x
  | none => b
def jn_plan (f : jF) (kind : Int32) (m : Nat) : Option (Int32 × Nat) :=
  if kind = 1 then jn_or (jn_mk 0 (jn_seek f 0 (-1) m false 2)) (jn_mk 0 (jn_seek f 0 1 m false 2))
  else if kind = 2 then jn_or (jn_mk 4 (jn_seek f 4 0 m false 2)) (jn_mk 0 (jn_seek f 0 (-1) m false 2))
  else if kind = 3 then jn_or (jn_mk 0 (jn_seek f 0 (-1) m true 2)) (jn_mk 0 (jn_seek f 0 1 m true 2))
  else if kind = 4 then jn_or (jn_mk 5 (jn_seek f 5 0 m false 1)) (jn_or (jn_mk 4 (jn_seek f 4 0 m false 2)) (jn_mk 0 (jn_seek f 0 (-1) m false 2)))
  else if kind = 5 then jn_mk 0 (jn_seek f 0 (-1) m false 1)
  else jn_mk 0 (jn_seek f 0 (-1) m false 2)
def jn_3 (k : Int32) : Prop := k = 0 ∨ k = 4 ∨ k = 5
theorem jm_norm_3 {k : Int32} (hk : jn_3 k) (p : Int32) : jm_norm (k, p, 0, 0, 0) = (k, p, 0, 0, 0) := by
  rcases hk with rfl | rfl | rfl
  · show (0, (if jr_has 0 &&& 1 = 0 then 0 else p), (if jr_has 0 &&& 2 = 0 then 0 else 0), (if jr_has 0 &&& 4 = 0 then 0 else 0), (if jr_has 0 &&& 8 = 0 then 0 else 0)) = _
    rw [if_neg (by decide)]; simp
  · show (4, (if jr_has 4 &&& 1 = 0 then 0 else p), (if jr_has 4 &&& 2 = 0 then 0 else 0), (if jr_has 4 &&& 4 = 0 then 0 else 0), (if jr_has 4 &&& 8 = 0 then 0 else 0)) = _
    rw [if_neg (by decide)]; simp
  · show (5, (if jr_has 5 &&& 1 = 0 then 0 else p), (if jr_has 5 &&& 2 = 0 then 0 else 0), (if jr_has 5 &&& 4 = 0 then 0 else 0), (if jr_has 5 &&& 8 = 0 then 0 else 0)) = _
    rw [if_neg (by decide)]; simp
section
variable {rc : Nat → Nat × (Nat → Int32)} {h : jxH} {a t b : Nat} {f g : jF} {m : jM} {sg : Int32}
/-- the loop's body at a place: on, or found -/
theorem st_seek_at (hr : jk_rom rc) (H : st_at h t m sg) (G : fo_at h a f) (B : jf_B f) (ht : t < a ∨ a + 3 ≤ t) {kind w : Int32} (hk : jn_3 kind) {mm mn k : Nat} (hm : mm < 2 ^ 31) (hmn : mn < 2 ^ 31) (k12 : k < 12) (late i : Int32) : ∃ h1, (∃ m1, st_at h1 t m1 sg) ∧ Fr (fun x => x = t) h h1 ∧ ((jn_ok f kind w mm mn k = true ∧ st_at h1 t (kind, Int32.ofNat k, 0, 0, 0) sg ∧ ∀ d, jb_284 rc (d + 5) 12 [(0, .ref t), (1, .ref a), (2, .int kind), (3, .int w), (4, .int (Int32.ofNat mm)), (5, .int late), (6, .int (Int32.ofNat mn)), (7, .int i)] [.int (Int32.ofNat k)] h = some (some (.int 1), h1)) ∨ (jn_ok f kind w mm mn k = false ∧ ∀ d, jb_284 rc (d + 5) 12 [(0, .ref t), (1, .ref a), (2, .int kind), (3, .int w), (4, .int (Int32.ofNat mm)), (5, .int late), (6, .int (Int32.ofNat mn)), (7, .int i)] [.int (Int32.ofNat k)] h = jb_284 rc (d + 5) 2 [(0, .ref t), (1, .ref a), (2, .int kind), (3, .int w), (4, .int (Int32.ofNat mm)), (5, .int late), (6, .int (Int32.ofNat mn)), (7, .int (i + 1))] [] h1)) := by
  have hbc := bc_le (f.2.1 k)
  by_cases c1 : mm ≤ k
  · have c1' : ¬ Int32.ofNat k < Int32.ofNat mm := by rw [jk_lt (by omega) hm]; omega
    by_cases c2 : f.1 k = w
    · by_cases c3 : bc (f.2.1 k) ≤ mn
      · have c3' : ¬ Int32.ofNat mn < Int32.ofNat (bc (f.2.1 k)) := by rw [jk_lt hmn (by omega)]; omega
        obtain ⟨h1, r1, r2, r3⟩ := st_mean (rc := rc) hr H kind (Int32.ofNat k) 0 0 0
        rw [jm_norm_3 hk] at r2
        have G1 := fo_fr r3 (fun x h1 h2 => by omega) G
        have R := fun d => st_refusal (rc := rc) hr r2 G1 B.n B.s false d
        by_cases c4 : jf_ref f false (kind, Int32.ofNat k, 0, 0, 0) = 0
        · refine ⟨h1, ⟨_, r2⟩, r3, Or.inl ⟨by unfold jn_ok; simp [c1, c2, c3, c4], r2, fun d => ?_⟩⟩
          rw [je_284_12, if_neg c1', fo_weightAt G, jk_cI, jF_w_of k12, if_pos c2, fo_degree G B.n, jk_cI, jF_n_of k12, if_neg c3', r1, jk_cV]
          have := R d
          rw [c4] at this
          rw [show (0 : Int32) = jk_b false from rfl] 
          refine (congrArg (fun z => jx_cI z _) this).trans ?_
          rw [jk_cI]
          rfl
        · refine ⟨h1, ⟨_, r2⟩, r3, Or.inr ⟨by unfold jn_ok; simp [c4], fun d => ?_⟩⟩
          rw [je_284_12, if_neg c1', fo_weightAt G, jk_cI, jF_w_of k12, if_pos c2, fo_degree G B.n, jk_cI, jF_n_of k12, if_neg c3', r1, jk_cV]
          refine (congrArg (fun z => jx_cI z _) (R d)).trans ?_
          rw [jk_cI, if_neg c4]
      · have c3' : Int32.ofNat mn < Int32.ofNat (bc (f.2.1 k)) := by rw [jk_lt hmn (by omega)]; omega
        refine ⟨h, ⟨_, H⟩, Fr.rfl, Or.inr ⟨by unfold jn_ok; simp [c3], fun d => ?_⟩⟩
        rw [je_284_12, if_neg c1', fo_weightAt G, jk_cI, jF_w_of k12, if_pos c2, fo_degree G B.n, jk_cI, jF_n_of k12, if_pos c3']
    · refine ⟨h, ⟨_, H⟩, Fr.rfl, Or.inr ⟨by unfold jn_ok; simp [c2], fun d => ?_⟩⟩
      rw [je_284_12, if_neg c1', fo_weightAt G, jk_cI, jF_w_of k12, if_neg c2]
  · have c1' : Int32.ofNat k < Int32.ofNat mm := by rw [jk_lt (by omega) hm]; omega
    refine ⟨h, ⟨_, H⟩, Fr.rfl, Or.inr ⟨by unfold jn_ok; simp [c1], fun d => ?_⟩⟩
    rw [je_284_12, if_pos c1']
theorem st_seek_l (hr : jk_rom rc) (B : jf_B f) (ht : t < a ∨ a + 3 ≤ t) {kind w : Int32} (hk : jn_3 kind) {mm mn : Nat} (hm : mm < 2 ^ 31) (hmn : mn < 2 ^ 31) : ∀ (n k : Nat) (h : jxH) (m : jM), k + n = 12 → st_at h t m sg → fo_at h a f → ∃ h1, (∃ m1, st_at h1 t m1 sg) ∧ Fr (fun x => x = t) h h1 ∧ (∀ j, fi (jn_ok f kind w mm mn) n k = some j → st_at h1 t (kind, Int32.ofNat j, 0, 0, 0) sg) ∧ ∀ d, jb_284 rc (d + 5) 2 [(0, .ref t), (1, .ref a), (2, .int kind), (3, .int w), (4, .int (Int32.ofNat mm)), (5, .int 0), (6, .int (Int32.ofNat mn)), (7, .int (Int32.ofNat k))] [] h = some (some (.int (jk_b (fi (jn_ok f kind w mm mn) n k).isSome)), h1)
  | 0, k, h, m, e, H, G => by
    obtain rfl : k = 12 := by omega
    exact ⟨h, ⟨_, H⟩, Fr.rfl, (fun j q => by cases q), fun d => by rw [je_284_2]; rfl⟩
  | n + 1, k, h, m, e, H, G => by
    have hk12 : k < 12 := by omega
    obtain ⟨h1, ⟨m1, s1⟩, s2, s3⟩ := st_seek_at (rc := rc) hr H G B ht (w := w) hk hm hmn hk12 0 (Int32.ofNat k)
    rcases s3 with ⟨c1, c2, c3⟩ | ⟨c1, c3⟩
    · have e1 : fi (jn_ok f kind w mm mn) (n + 1) k = some k := by unfold fi; rw [if_pos c1]
      rw [e1]
      refine ⟨h1, ⟨_, s1⟩, s2, (fun j q => by cases q; exact c2), fun d => ?_⟩
      rw [je_284_2, if_neg (jk_n12 hk12), if_pos rfl]
      exact c3 d
    · have e1 : fi (jn_ok f kind w mm mn) (n + 1) k = fi (jn_ok f kind w mm mn) n (k + 1) := by
        conv => lhs; unfold fi
        rw [if_neg (by rw [c1]; decide)]
      rw [e1]
      obtain ⟨h', i1, i2, i3, i4⟩ := st_seek_l hr B ht (w := w) hk hm hmn n (k + 1) h1 m1 (by omega) s1 (fo_fr s2 (fun x q1 q2 => by omega) G)
      refine ⟨h', i1, s2.trans i2, i3, fun d => ?_⟩
      rw [je_284_2, if_neg (jk_n12 hk12), if_pos rfl]
      refine (c3 d).trans ?_
      rw [jk_succ]
      exact i4 d
theorem st_seek_m (hr : jk_rom rc) (B : jf_B f) (ht : t < a ∨ a + 3 ≤ t) {kind w : Int32} (hk : jn_3 kind) {mm mn : Nat} (hm : mm < 2 ^ 31) (hmn : mn < 2 ^ 31) : ∀ (n k : Nat) (h : jxH) (m : jM), k + n = 12 → st_at h t m sg → fo_at h a f → ∃ h1, (∃ m1, st_at h1 t m1 sg) ∧ Fr (fun x => x = t) h h1 ∧ (∀ j, la (jn_ok f kind w mm mn) n = some j → st_at h1 t (kind, Int32.ofNat j, 0, 0, 0) sg) ∧ ∀ d, jb_284 rc (d + 5) 2 [(0, .ref t), (1, .ref a), (2, .int kind), (3, .int w), (4, .int (Int32.ofNat mm)), (5, .int 1), (6, .int (Int32.ofNat mn)), (7, .int (Int32.ofNat k))] [] h = some (some (.int (jk_b (la (jn_ok f kind w mm mn) n).isSome)), h1)
  | 0, k, h, m, e, H, G => by
    obtain rfl : k = 12 := by omega
    exact ⟨h, ⟨_, H⟩, Fr.rfl, (fun j q => by cases q), fun d => by rw [je_284_2]; rfl⟩
  | n + 1, k, h, m, e, H, G => by
    have hk12 : k < 12 := by omega
    have hn12 : n < 12 := by omega
    have en : (11 : Int32) - Int32.ofNat k = Int32.ofNat n := by
      rw [show (11 : Int32) = Int32.ofNat 11 from rfl, ← Int32.ofNat_sub _ _ (by omega), show 11 - k = n by omega]
    obtain ⟨h1, ⟨m1, s1⟩, s2, s3⟩ := st_seek_at (rc := rc) hr H G B ht (w := w) hk hm hmn hn12 1 (Int32.ofNat k)
    rcases s3 with ⟨c1, c2, c3⟩ | ⟨c1, c3⟩
    · have e1 : la (jn_ok f kind w mm mn) (n + 1) = some n := by unfold la; rw [if_pos c1]
      rw [e1]
      refine ⟨h1, ⟨_, s1⟩, s2, (fun j q => by cases q; exact c2), fun d => ?_⟩
      rw [je_284_2, if_neg (jk_n12 hk12), if_neg (by decide), en]
      exact c3 d
    · have e1 : la (jn_ok f kind w mm mn) (n + 1) = la (jn_ok f kind w mm mn) n := by
        conv => lhs; unfold la
        rw [if_neg (by rw [c1]; decide)]
      rw [e1]
      obtain ⟨h', i1, i2, i3, i4⟩ := st_seek_m hr B ht (w := w) hk hm hmn n (k + 1) h1 m1 (by omega) s1 (fo_fr s2 (fun x q1 q2 => by omega) G)
      refine ⟨h', i1, s2.trans i2, i3, fun d => ?_⟩
      rw [je_284_2, if_neg (jk_n12 hk12), if_neg (by decide), en]
      refine (c3 d).trans ?_
      rw [jk_succ]
      exact i4 d
/-- seek() -/
theorem st_seek (hr : jk_rom rc) (H : st_at h t m sg) (G : fo_at h a f) (B : jf_B f) (ht : t < a ∨ a + 3 ≤ t) {kind w : Int32} (hk : jn_3 kind) {mm mn : Nat} (hm : mm < 2 ^ 31) (hmn : mn < 2 ^ 31) (late : Bool) : ∃ h1, (∃ m1, st_at h1 t m1 sg) ∧ Fr (fun x => x = t) h h1 ∧ (∀ j, jn_seek f kind w mm late mn = some j → st_at h1 t (kind, Int32.ofNat j, 0, 0, 0) sg) ∧ ∀ d, jx_C rc (d + 6) 284 [.ref t, .ref a, .int kind, .int w, .int (Int32.ofNat mm), .int (jk_b late), .int (Int32.ofNat mn)] h = some (some (.int (jk_b (jn_seek f kind w mm late mn).isSome)), h1) := by
  cases late with
  | false =>
    have e : jn_seek f kind w mm false mn = fi (jn_ok f kind w mm mn) 12 0 := if_neg Bool.false_ne_true
    rw [e]
    obtain ⟨h1, i1, i2, i3, i4⟩ := st_seek_l (rc := rc) hr B ht (w := w) hk hm hmn 12 0 h m (by omega) H G
    refine ⟨h1, i1, i2, i3, fun d => ?_⟩
    rw [je_284, if_pos (st_is H), jk_bf]
    exact i4 d
  | true =>
    have e : jn_seek f kind w mm true mn = la (jn_ok f kind w mm mn) 12 := if_pos rfl
    rw [e]
    obtain ⟨h1, i1, i2, i3, i4⟩ := st_seek_m (rc := rc) hr B ht (w := w) hk hm hmn 12 0 h m (by omega) H G
    refine ⟨h1, i1, i2, i3, fun d => ?_⟩
    rw [je_284, if_pos (st_is H), jk_bt]
    exact i4 d
/-- plan() -/
theorem cr_plan (hr : jk_rom rc) (H : st_at h t m sg) (G : fo_at h a f) (B : jf_B f) (ht : t < a ∨ a + 3 ≤ t) (kind : Int32) {mm : Nat} (hm : mm < 2 ^ 31) : ∃ h1, (∃ m1, st_at h1 t m1 sg) ∧ Fr (fun x => x = t) h h1 ∧ (∀ k j, jn_plan f kind mm = some (k, j) → st_at h1 t (k, Int32.ofNat j, 0, 0, 0) sg) ∧ ∀ d, jx_C rc (d + 7) 222 [.ref t, .ref a, .int kind, .int (Int32.ofNat mm)] h = some (some (.int (jk_b (jn_plan f kind mm).isSome)), h1) := by
  have hG : ∀ {h1 : jxH}, Fr (fun x => x = t) h h1 → fo_at h1 a f := fun F => fo_fr F (fun x q1 q2 => by omega) G
  by_cases c1 : kind = 1
  · subst c1
    unfold jn_plan
    rw [if_pos rfl]
    obtain ⟨h1, ⟨m1, p1⟩, q1, r1, s1⟩ := st_seek (rc := rc) hr H G B ht (kind := 0) (w := (-1)) (Or.inl rfl) hm (mn := 2) (by decide) false
    cases e1 : jn_seek f 0 (-1) mm false 2 with
    | some j =>
      refine ⟨h1, ⟨_, p1⟩, q1, (fun k j q => by simp only [jn_mk, jn_or] at q; cases q; exact r1 _ e1), fun d => ?_⟩
      rw [je_222]
      rw [if_pos (by decide)]
      refine (congrArg (fun z => jx_cI z _) (s1 d)).trans ?_
      rw [jk_cI, e1]
      rfl
    | none =>
      obtain ⟨h2, ⟨m2, p2⟩, q2, r2, s2⟩ := st_seek (rc := rc) hr p1 (hG q1) B ht (kind := 0) (w := 1) (Or.inl rfl) hm (mn := 2) (by decide) false
      cases e2 : jn_seek f 0 1 mm false 2 with
      | some j =>
        refine ⟨h2, ⟨_, p2⟩, (q1.trans q2), (fun k j q => by simp only [jn_mk, jn_or] at q; cases q; exact r2 _ e2), fun d => ?_⟩
        rw [je_222]
        rw [if_pos (by decide)]
        refine (congrArg (fun z => jx_cI z _) (s1 d)).trans ?_
        rw [jk_cI, e1]
        rw [show jk_b (none : Option Nat).isSome = 0 from rfl, if_pos rfl]
        refine (congrArg (fun z => jx_cI z _) (s2 d)).trans ?_
        rw [jk_cI, e2]
        rfl
      | none =>
        refine ⟨h2, ⟨_, p2⟩, (q1.trans q2), (fun k j q => by simp only [jn_mk, jn_or] at q; cases q), fun d => ?_⟩
        rw [je_222]
        rw [if_pos (by decide)]
        refine (congrArg (fun z => jx_cI z _) (s1 d)).trans ?_
        rw [jk_cI, e1]
        rw [show jk_b (none : Option Nat).isSome = 0 from rfl, if_pos rfl]
        refine (congrArg (fun z => jx_cI z _) (s2 d)).trans ?_
        rw [jk_cI, e2]
        rfl
  by_cases c2 : kind = 2
  · subst c2
    unfold jn_plan
    rw [if_neg (by decide)]
    rw [if_pos rfl]
    obtain ⟨h1, ⟨m1, p1⟩, q1, r1, s1⟩ := st_seek (rc := rc) hr H G B ht (kind := 4) (w := 0) (Or.inr (Or.inl rfl)) hm (mn := 2) (by decide) false
    cases e1 : jn_seek f 4 0 mm false 2 with
    | some j =>
      refine ⟨h1, ⟨_, p1⟩, q1, (fun k j q => by simp only [jn_mk, jn_or] at q; cases q; exact r1 _ e1), fun d => ?_⟩
      rw [je_222]
      rw [if_neg (by decide)]
      rw [if_pos (by decide)]
      refine (congrArg (fun z => jx_cI z _) (s1 d)).trans ?_
      rw [jk_cI, e1]
      rfl
    | none =>
      obtain ⟨h2, ⟨m2, p2⟩, q2, r2, s2⟩ := st_seek (rc := rc) hr p1 (hG q1) B ht (kind := 0) (w := (-1)) (Or.inl rfl) hm (mn := 2) (by decide) false
      cases e2 : jn_seek f 0 (-1) mm false 2 with
      | some j =>
        refine ⟨h2, ⟨_, p2⟩, (q1.trans q2), (fun k j q => by simp only [jn_mk, jn_or] at q; cases q; exact r2 _ e2), fun d => ?_⟩
        rw [je_222]
        rw [if_neg (by decide)]
        rw [if_pos (by decide)]
        refine (congrArg (fun z => jx_cI z _) (s1 d)).trans ?_
        rw [jk_cI, e1]
        rw [show jk_b (none : Option Nat).isSome = 0 from rfl, if_pos rfl]
        refine (congrArg (fun z => jx_cI z _) (s2 d)).trans ?_
        rw [jk_cI, e2]
        rfl
      | none =>
        refine ⟨h2, ⟨_, p2⟩, (q1.trans q2), (fun k j q => by simp only [jn_mk, jn_or] at q; cases q), fun d => ?_⟩
        rw [je_222]
        rw [if_neg (by decide)]
        rw [if_pos (by decide)]
        refine (congrArg (fun z => jx_cI z _) (s1 d)).trans ?_
        rw [jk_cI, e1]
        rw [show jk_b (none : Option Nat).isSome = 0 from rfl, if_pos rfl]
        refine (congrArg (fun z => jx_cI z _) (s2 d)).trans ?_
        rw [jk_cI, e2]
        rfl
  by_cases c3 : kind = 3
  · subst c3
    unfold jn_plan
    rw [if_neg (by decide)]
    rw [if_neg (by decide)]
    rw [if_pos rfl]
    obtain ⟨h1, ⟨m1, p1⟩, q1, r1, s1⟩ := st_seek (rc := rc) hr H G B ht (kind := 0) (w := (-1)) (Or.inl rfl) hm (mn := 2) (by decide) true
    cases e1 : jn_seek f 0 (-1) mm true 2 with
    | some j =>
      refine ⟨h1, ⟨_, p1⟩, q1, (fun k j q => by simp only [jn_mk, jn_or] at q; cases q; exact r1 _ e1), fun d => ?_⟩
      rw [je_222]
      rw [if_neg (by decide)]
      rw [if_neg (by decide)]
      rw [if_pos (by decide)]
      refine (congrArg (fun z => jx_cI z _) (s1 d)).trans ?_
      rw [jk_cI, e1]
      rfl
    | none =>
      obtain ⟨h2, ⟨m2, p2⟩, q2, r2, s2⟩ := st_seek (rc := rc) hr p1 (hG q1) B ht (kind := 0) (w := 1) (Or.inl rfl) hm (mn := 2) (by decide) true
      cases e2 : jn_seek f 0 1 mm true 2 with
      | some j =>
        refine ⟨h2, ⟨_, p2⟩, (q1.trans q2), (fun k j q => by simp only [jn_mk, jn_or] at q; cases q; exact r2 _ e2), fun d => ?_⟩
        rw [je_222]
        rw [if_neg (by decide)]
        rw [if_neg (by decide)]
        rw [if_pos (by decide)]
        refine (congrArg (fun z => jx_cI z _) (s1 d)).trans ?_
        rw [jk_cI, e1]
        rw [show jk_b (none : Option Nat).isSome = 0 from rfl, if_pos rfl]
        refine (congrArg (fun z => jx_cI z _) (s2 d)).trans ?_
        rw [jk_cI, e2]
        rfl
      | none =>
        refine ⟨h2, ⟨_, p2⟩, (q1.trans q2), (fun k j q => by simp only [jn_mk, jn_or] at q; cases q), fun d => ?_⟩
        rw [je_222]
        rw [if_neg (by decide)]
        rw [if_neg (by decide)]
        rw [if_pos (by decide)]
        refine (congrArg (fun z => jx_cI z _) (s1 d)).trans ?_
        rw [jk_cI, e1]
        rw [show jk_b (none : Option Nat).isSome = 0 from rfl, if_pos rfl]
        refine (congrArg (fun z => jx_cI z _) (s2 d)).trans ?_
        rw [jk_cI, e2]
        rfl
  by_cases c4 : kind = 4
  · subst c4
    unfold jn_plan
    rw [if_neg (by decide)]
    rw [if_neg (by decide)]
    rw [if_neg (by decide)]
    rw [if_pos rfl]
    obtain ⟨h1, ⟨m1, p1⟩, q1, r1, s1⟩ := st_seek (rc := rc) hr H G B ht (kind := 5) (w := 0) (Or.inr (Or.inr rfl)) hm (mn := 1) (by decide) false
    cases e1 : jn_seek f 5 0 mm false 1 with
    | some j =>
      refine ⟨h1, ⟨_, p1⟩, q1, (fun k j q => by simp only [jn_mk, jn_or] at q; cases q; exact r1 _ e1), fun d => ?_⟩
      rw [je_222]
      rw [if_neg (by decide)]
      rw [if_neg (by decide)]
      rw [if_neg (by decide)]
      rw [if_pos (by decide)]
      refine (congrArg (fun z => jx_cI z _) (s1 d)).trans ?_
      rw [jk_cI, e1]
      rfl
    | none =>
      obtain ⟨h2, ⟨m2, p2⟩, q2, r2, s2⟩ := st_seek (rc := rc) hr p1 (hG q1) B ht (kind := 4) (w := 0) (Or.inr (Or.inl rfl)) hm (mn := 2) (by decide) false
      cases e2 : jn_seek f 4 0 mm false 2 with
      | some j =>
        refine ⟨h2, ⟨_, p2⟩, (q1.trans q2), (fun k j q => by simp only [jn_mk, jn_or] at q; cases q; exact r2 _ e2), fun d => ?_⟩
        rw [je_222]
        rw [if_neg (by decide)]
        rw [if_neg (by decide)]
        rw [if_neg (by decide)]
        rw [if_pos (by decide)]
        refine (congrArg (fun z => jx_cI z _) (s1 d)).trans ?_
        rw [jk_cI, e1]
        rw [show jk_b (none : Option Nat).isSome = 0 from rfl, if_pos rfl]
        refine (congrArg (fun z => jx_cI z _) (s2 d)).trans ?_
        rw [jk_cI, e2]
        rfl
      | none =>
        obtain ⟨h3, ⟨m3, p3⟩, q3, r3, s3⟩ := st_seek (rc := rc) hr p2 (hG (q1.trans q2)) B ht (kind := 0) (w := (-1)) (Or.inl rfl) hm (mn := 2) (by decide) false
        cases e3 : jn_seek f 0 (-1) mm false 2 with
        | some j =>
          refine ⟨h3, ⟨_, p3⟩, ((q1.trans q2).trans q3), (fun k j q => by simp only [jn_mk, jn_or] at q; cases q; exact r3 _ e3), fun d => ?_⟩
          rw [je_222]
          rw [if_neg (by decide)]
          rw [if_neg (by decide)]
          rw [if_neg (by decide)]
          rw [if_pos (by decide)]
          refine (congrArg (fun z => jx_cI z _) (s1 d)).trans ?_
          rw [jk_cI, e1]
          rw [show jk_b (none : Option Nat).isSome = 0 from rfl, if_pos rfl]
          refine (congrArg (fun z => jx_cI z _) (s2 d)).trans ?_
          rw [jk_cI, e2]
          rw [show jk_b (none : Option Nat).isSome = 0 from rfl, if_pos rfl]
          refine (congrArg (fun z => jx_cI z _) (s3 d)).trans ?_
          rw [jk_cI, e3]
          rfl
        | none =>
          refine ⟨h3, ⟨_, p3⟩, ((q1.trans q2).trans q3), (fun k j q => by simp only [jn_mk, jn_or] at q; cases q), fun d => ?_⟩
          rw [je_222]
          rw [if_neg (by decide)]
          rw [if_neg (by decide)]
          rw [if_neg (by decide)]
          rw [if_pos (by decide)]
          refine (congrArg (fun z => jx_cI z _) (s1 d)).trans ?_
          rw [jk_cI, e1]
          rw [show jk_b (none : Option Nat).isSome = 0 from rfl, if_pos rfl]
          refine (congrArg (fun z => jx_cI z _) (s2 d)).trans ?_
          rw [jk_cI, e2]
          rw [show jk_b (none : Option Nat).isSome = 0 from rfl, if_pos rfl]
          refine (congrArg (fun z => jx_cI z _) (s3 d)).trans ?_
          rw [jk_cI, e3]
          rfl
  by_cases c5 : kind = 5
  · subst c5
    unfold jn_plan
    rw [if_neg (by decide)]
    rw [if_neg (by decide)]
    rw [if_neg (by decide)]
    rw [if_neg (by decide)]
    rw [if_pos rfl]
    obtain ⟨h1, ⟨m1, p1⟩, q1, r1, s1⟩ := st_seek (rc := rc) hr H G B ht (kind := 0) (w := (-1)) (Or.inl rfl) hm (mn := 1) (by decide) false
    cases e1 : jn_seek f 0 (-1) mm false 1 with
    | some j =>
      refine ⟨h1, ⟨_, p1⟩, q1, (fun k j q => by simp only [jn_mk, jn_or] at q; cases q; exact r1 _ e1), fun d => ?_⟩
      rw [je_222]
      rw [if_neg (by decide)]
      rw [if_neg (by decide)]
      rw [if_neg (by decide)]
      rw [if_neg (by decide)]
      rw [if_pos (by decide)]
      refine (congrArg (fun z => jx_cI z _) (s1 d)).trans ?_
      rw [jk_cI, e1]
      rfl
    | none =>
      refine ⟨h1, ⟨_, p1⟩, q1, (fun k j q => by simp only [jn_mk, jn_or] at q; cases q), fun d => ?_⟩
      rw [je_222]
      rw [if_neg (by decide)]
      rw [if_neg (by decide)]
      rw [if_neg (by decide)]
      rw [if_neg (by decide)]
      rw [if_pos (by decide)]
      refine (congrArg (fun z => jx_cI z _) (s1 d)).trans ?_
      rw [jk_cI, e1]
      rfl
  unfold jn_plan
  rw [if_neg c1, if_neg c2, if_neg c3, if_neg c4, if_neg c5]
  obtain ⟨h1, ⟨m1, p1⟩, q1, r1, s1⟩ := st_seek (rc := rc) hr H G B ht (kind := 0) (w := (-1)) (Or.inl rfl) hm (mn := 2) (by decide) false
  cases e1 : jn_seek f 0 (-1) mm false 2 with
  | some j =>
    refine ⟨h1, ⟨_, p1⟩, q1, (fun k j q => by simp only [jn_mk, jn_or] at q; cases q; exact r1 _ e1), fun d => ?_⟩
    rw [je_222]
    rw [if_neg c1]
    rw [if_neg (show ¬ kind = ((1 + 1) : Int32) from c2)]
    rw [if_neg (show ¬ kind = (((1 + 1) + 1) : Int32) from c3)]
    rw [if_neg (show ¬ kind = ((((1 + 1) + 1) + 1) : Int32) from c4)]
    rw [if_neg (show ¬ kind = (((((1 + 1) + 1) + 1) + 1) : Int32) from c5)]
    refine (congrArg (fun z => jx_cI z _) (s1 d)).trans ?_
    rw [jk_cI, e1]
    rfl
  | none =>
    refine ⟨h1, ⟨_, p1⟩, q1, (fun k j q => by simp only [jn_mk, jn_or] at q; cases q), fun d => ?_⟩
    rw [je_222]
    rw [if_neg c1]
    rw [if_neg (show ¬ kind = ((1 + 1) : Int32) from c2)]
    rw [if_neg (show ¬ kind = (((1 + 1) + 1) : Int32) from c3)]
    rw [if_neg (show ¬ kind = ((((1 + 1) + 1) + 1) : Int32) from c4)]
    rw [if_neg (show ¬ kind = (((((1 + 1) + 1) + 1) + 1) : Int32) from c5)]
    refine (congrArg (fun z => jx_cI z _) (s1 d)).trans ?_
    rw [jk_cI, e1]
    rfl
end
