/-! What a WORKER does NEXT, in the reference -/
def la2 (P : Nat → Bool) : Nat → Nat → Option Nat → Option Nat
  | 0, _, acc => acc
  | m + 1, k, acc => la2 P m (k + 1) (if P k = true then some k else acc)
theorem la2_la {P : Nat → Bool} : ∀ (m k : Nat), la2 P m k (la P k) = la P (k + m)
  | 0, _ => rfl
  | m + 1, k => by
    unfold la2
    have : (if P k = true then some k else la P k) = la P (k + 1) := rfl
    rw [this, la2_la m (k + 1), show k + 1 + m = k + (m + 1) by omega]
theorem la_none {P : Nat → Bool} : ∀ {n : Nat}, (∀ j, j < n → P j = false) → la P n = none
  | 0, _ => rfl
  | n + 1, h => by
    unfold la
    rw [h n (by omega), if_neg (by decide), la_none (fun j hj => h j (by omega))]
theorem fi_skip {P : Nat → Bool} : ∀ {n k m : Nat}, (∀ j, k ≤ j → j < k + n → P j = false) → fi P (n + m) k = fi P m (k + n)
  | 0, k, m, _ => by rw [Nat.zero_add]; rfl
  | n + 1, k, m, h => by
    rw [show n + 1 + m = (n + m) + 1 by omega]
    conv => lhs; unfold fi
    rw [h k (Nat.le_refl _) (by omega), if_neg (by decide), fi_skip (fun j a b => h j (by omega) (by omega)), show k + 1 + n = k + (n + 1) by omega]
def jn_code : Option (Int32 × Nat) → Int32
  | none => -1
  | some (k, p) => 100 * k + Int32.ofNat p
theorem jn_ok_mn {f : jF} {kind w : Int32} {m k : Nat} (hk : k < 12) {mn : Nat} (h : jf_ref f false (kind, Int32.ofNat k, 0, 0, 0) = 0 → bc (f.2.1 k) ≤ mn) : jn_ok f kind w m mn k = jn_ok f kind w m 12 k := by
  have b := bc_le (f.2.1 k)
  unfold jn_ok
  by_cases e : jf_ref f false (kind, Int32.ofNat k, 0, 0, 0) = 0
  · have := h e
    simp [e, this, b]
  · simp [e]
theorem jn_ref_p {f : jF} {kind : Int32} (hk : jn_3 kind) {k : Nat} (h12 : k < 12) (e : jf_ref f false (kind, Int32.ofNat k, 0, 0, 0) = 0) : bc (f.2.1 k) ≤ 2 ∧ bt f.2.2 k = true ∧ (kind = 5 → bc (f.2.1 k) ≤ 1) := by
  rcases hk with rfl | rfl | rfl
  · obtain ⟨p, hp, e1, e2, -, e3⟩ := jf_ref_0 e rfl
    have : k = p := (jk_inj (by omega) (by omega)).mp e1
    subst this
    exact ⟨e3, e2, fun q => absurd q (by decide)⟩
  · obtain ⟨p, hp, e1, e2, -, e3⟩ := jf_ref_4 e rfl
    have : k = p := (jk_inj (by omega) (by omega)).mp e1
    subst this
    exact ⟨by omega, e2, fun q => absurd q (by decide)⟩
  · obtain ⟨p, hp, e1, e2, -, e3⟩ := jf_ref_5 e rfl
    have : k = p := (jk_inj (by omega) (by omega)).mp e1
    subst this
    exact ⟨by omega, e2, fun q => by omega⟩
theorem jn_seek_mn {f : jF} {kind w : Int32} (hk : jn_3 kind) {m : Nat} (late : Bool) {mn : Nat} (h : 2 ≤ mn ∨ (kind = 5 ∧ 1 ≤ mn)) : jn_seek f kind w m late mn = jn_seek f kind w m late 12 := by
  have key : ∀ k, k < 12 → jn_ok f kind w m mn k = jn_ok f kind w m 12 k := fun k hk12 => jn_ok_mn hk12 fun e => by
    obtain ⟨a, -, c⟩ := jn_ref_p hk hk12 e
    rcases h with h | ⟨h1, h2⟩
    · omega
    · have := c h1; omega
  cases late with
  | true =>
    rw [show jn_seek f kind w m true mn = la (jn_ok f kind w m mn) 12 from if_pos rfl, show jn_seek f kind w m true 12 = la (jn_ok f kind w m 12) 12 from if_pos rfl]
    exact la_congr fun j hj => key j hj
  | false =>
    rw [show jn_seek f kind w m false mn = fi (jn_ok f kind w m mn) 12 0 from if_neg Bool.false_ne_true, show jn_seek f kind w m false 12 = fi (jn_ok f kind w m 12) 12 0 from if_neg Bool.false_ne_true]
    exact fi_congr fun j _ hj => key j (by omega)
section
variable {rc : Nat → Nat × (Nat → Int32)} {h : jxH} {b : Nat} {f : jF}
theorem rf_found_at (H : ro_at h b f) (hn : ∀ k, k < 12 → S12 (f.2.1 k)) {kind w : Int32} (hk : jn_3 kind) {mm mn k : Nat} (hmn : mn < 2 ^ 31) (k12 : k < 12) (hm : mm ≤ k) (x5 x6 : Int32) (d : Nat) : jb_181 rc (d + 6) 4 [(0, .ref b), (1, .int kind), (3, .int w), (4, .int (Int32.ofNat mn)), (5, .int x5), (6, .int x6), (7, .int (Int32.ofNat k))] [] h = jb_181 rc (d + 6) 37 [(0, .ref b), (1, .int kind), (3, .int w), (4, .int (Int32.ofNat mn)), (5, .int x5), (6, .int x6), (7, .int (Int32.ofNat k))] [.int (jk_b (jn_ok f kind w mm mn k))] h := by
  have hbc := bc_le (f.2.1 k)
  have R := rf_refused (rc := rc) H hn (kind, Int32.ofNat k, 0, 0, 0) d
  rw [je_181_4, if_neg (jk_n12 k12), rf_isThere H, jk_cI, jF_has_of k12, jk_if0]
  by_cases c0 : bt f.2.2 k = true
  · rw [if_pos c0, ro_w H k12, jk_bs]
    by_cases c2 : f.1 k = w
    · rw [if_pos c2, ro_n H k12, jk_bs, rf_many, jk_cI]
      by_cases c3 : bc (f.2.1 k) ≤ mn
      · rw [if_neg (by rw [jk_lt hmn (by omega)]; omega)]
        refine (congrArg (fun z => jx_cI z _) R).trans ?_
        rw [jk_cI]
        by_cases c4 : jf_ref f false (kind, Int32.ofNat k, 0, 0, 0) = 0
        · rw [if_pos c4, show jn_ok f kind w mm mn k = true by unfold jn_ok; simp [hm, c2, c3, c4]]; rfl
        · rw [if_neg c4, show jn_ok f kind w mm mn k = false by unfold jn_ok; simp [c4]]; rfl
      · rw [if_pos (by rw [jk_lt hmn (by omega)]; omega), show jn_ok f kind w mm mn k = false by unfold jn_ok; simp [c3]]; rfl
    · rw [if_neg c2, show jn_ok f kind w mm mn k = false by unfold jn_ok; simp [c2]]; rfl
  · rw [if_neg c0]
    have : jn_ok f kind w mm mn k = false := by
      unfold jn_ok
      by_cases c4 : jf_ref f false (kind, Int32.ofNat k, 0, 0, 0) = 0
      · exact absurd (jn_ref_p hk k12 c4).2.1 c0
      · simp [c4]
    rw [this]; rfl
theorem jk_on_neg : ∀ o : Option Nat, (∀ k, o = some k → k < 12) → ((0 : Int32) ≤ jk_on o ↔ o.isSome = true)
  | none, _ => by simp [jk_on]
  | some k, h => by
    simp [jk_on]
    exact jk_ge (by have := h k rfl; omega)
theorem rf_found_f (H : ro_at h b f) (hn : ∀ k, k < 12 → S12 (f.2.1 k)) {kind w : Int32} (hk : jn_3 kind) {mm mn : Nat} (hmn : mn < 2 ^ 31) (d : Nat) : ∀ (n k : Nat) (acc : Option Nat), k + n = 12 → mm ≤ k → (∀ j, acc = some j → j < 12) → jb_181 rc (d + 6) 4 [(0, .ref b), (1, .int kind), (3, .int w), (4, .int (Int32.ofNat mn)), (5, .int 0), (6, .int (jk_on acc)), (7, .int (Int32.ofNat k))] [] h = some (some (.int (jk_on (match acc with | some j => some j | none => fi (jn_ok f kind w mm mn) n k))), h)
  | 0, k, acc, e, hm, ha => by
    obtain rfl : k = 12 := by omega
    rw [je_181_4, if_pos (by decide)]
    cases acc <;> rfl
  | n + 1, k, acc, e, hm, ha => by
    have k12 : k < 12 := by omega
    rw [rf_found_at H hn hk hmn k12 hm, je_181_37, jk_if0, jk_succ]
    by_cases c : jn_ok f kind w mm mn k = true
    · rw [if_pos c, if_pos rfl]
      cases acc with
      | some j =>
        rw [if_pos ((jk_on_neg (some j) ha).mpr rfl), rf_found_f H hn hk (mm := mm) hmn d n (k + 1) (some j) (by omega) (by omega) ha]
      | none =>
        rw [if_neg (fun q => by have := (jk_on_neg none ha).mp q; cases this)]
        refine (rf_found_f H hn hk (mm := mm) hmn d n (k + 1) (some k) (by omega) (by omega) (fun j q => by cases q; exact k12)).trans ?_
        conv => rhs; unfold fi
        rw [if_pos c]
    · rw [if_neg c, rf_found_f H hn hk (mm := mm) hmn d n (k + 1) acc (by omega) (by omega) ha]
      cases acc with
      | some j => rfl
      | none =>
        conv => rhs; unfold fi
        rw [if_neg c]
theorem rf_found_l (H : ro_at h b f) (hn : ∀ k, k < 12 → S12 (f.2.1 k)) {kind w : Int32} (hk : jn_3 kind) {mm mn : Nat} (hmn : mn < 2 ^ 31) (d : Nat) : ∀ (n k : Nat) (acc : Option Nat), k + n = 12 → mm ≤ k → jb_181 rc (d + 6) 4 [(0, .ref b), (1, .int kind), (3, .int w), (4, .int (Int32.ofNat mn)), (5, .int 1), (6, .int (jk_on acc)), (7, .int (Int32.ofNat k))] [] h = some (some (.int (jk_on (la2 (jn_ok f kind w mm mn) n k acc))), h)
  | 0, k, acc, e, hm => by
    obtain rfl : k = 12 := by omega
    rw [je_181_4, if_pos (by decide)]
    rfl
  | n + 1, k, acc, e, hm => by
    have k12 : k < 12 := by omega
    rw [rf_found_at H hn hk hmn k12 hm, je_181_37, jk_if0, jk_succ]
    conv => rhs; unfold la2
    by_cases c : jn_ok f kind w mm mn k = true
    · rw [if_pos c, if_neg (by decide), if_pos c]
      exact rf_found_l H hn hk hmn d n (k + 1) (some k) (by omega) (by omega)
    · rw [if_neg c, if_neg c]
      exact rf_found_l H hn hk hmn d n (k + 1) acc (by omega) (by omega)
theorem rf_found (H : ro_at h b f) (hn : ∀ k, k < 12 → S12 (f.2.1 k)) {kind w : Int32} (hk : jn_3 kind) {mm mn : Nat} (hm : mm ≤ 12) (hmn : mn < 2 ^ 31) (late : Bool) (d : Nat) : jx_C rc (d + 7) 181 [.ref b, .int kind, .int (Int32.ofNat mm), .int w, .int (Int32.ofNat mn), .int (jk_b late)] h = some (some (.int (jk_on (jn_seek f kind w mm late mn))), h) := by
  have below : ∀ j, j < mm → jn_ok f kind w mm mn j = false := fun j hj => by unfold jn_ok; simp [show ¬ mm ≤ j by omega]
  rw [je_181]
  cases late with
  | false =>
    rw [jk_bf, show jn_seek f kind w mm false mn = fi (jn_ok f kind w mm mn) 12 0 from if_neg Bool.false_ne_true]
    refine (rf_found_f (rc := rc) H hn hk hmn d (12 - mm) mm none (by omega) (Nat.le_refl _) (fun j q => by cases q)).trans ?_
    have := fi_skip (P := jn_ok f kind w mm mn) (n := mm) (k := 0) (m := 12 - mm) (fun j _ hj => below j (by omega))
    rw [show mm + (12 - mm) = 12 by omega, Nat.zero_add] at this
    rw [this]
  | true =>
    rw [jk_bt, show jn_seek f kind w mm true mn = la (jn_ok f kind w mm mn) 12 from if_pos rfl]
    refine (rf_found_l (rc := rc) H hn hk hmn d (12 - mm) mm none (by omega) (Nat.le_refl _)).trans ?_
    have := la2_la (P := jn_ok f kind w mm mn) (12 - mm) mm
    rw [la_none below, show mm + (12 - mm) = 12 by omega] at this
    rw [this]
theorem jn_seek_lt {kind w : Int32} {mm mn : Nat} {late : Bool} {j : Nat} (e : jn_seek f kind w mm late mn = some j) : j < 12 ∧ jn_ok f kind w mm mn j = true := by
  cases late with
  | false =>
    rw [show jn_seek f kind w mm false mn = fi (jn_ok f kind w mm mn) 12 0 from if_neg Bool.false_ne_true] at e
    obtain ⟨-, b, c⟩ := fi_some e; exact ⟨by omega, c⟩
  | true =>
    rw [show jn_seek f kind w mm true mn = la (jn_ok f kind w mm mn) 12 from if_pos rfl] at e
    exact la_some e
theorem jk_on_lt0 {o : Option Nat} (h : ∀ k, o = some k → k < 12) : (jk_on o < 0) = (o = none) := by
  cases o with
  | none => exact propext ⟨fun _ => rfl, fun _ => by decide⟩
  | some k => exact propext ⟨fun q => absurd q (jk_nn (k := k) (by have := h k rfl; omega)), fun q => by cases q⟩
theorem jk_on_ge0 {o : Option Nat} (h : ∀ k, o = some k → k < 12) : ((0 : Int32) ≤ jk_on o) = ¬ (o = none) := by
  cases o with
  | none => exact propext ⟨fun q => absurd q (by decide), fun q => absurd rfl q⟩
  | some k => exact propext ⟨fun _ q => (by cases q), fun _ => jk_ge (k := k) (by have := h k rfl; omega)⟩
/-- nextOf() -/
theorem rf_nextOf (H : ro_at h b f) (hn : ∀ k, k < 12 → S12 (f.2.1 k)) (kind : Int32) {mm : Nat} (hm : mm ≤ 12) (d : Nat) : jx_C rc (d + 8) 182 [.ref b, .int kind, .int (Int32.ofNat mm)] h = some (some (.int (jn_code (jn_plan f kind mm))), h) := by
  have F : ∀ (k w : Int32) (hk : jn_3 k) (mn : Nat) (hmn : mn < 2 ^ 31) (late : Bool), jx_C rc (d + 7) 181 [.ref b, .int k, .int (Int32.ofNat mm), .int w, .int (Int32.ofNat mn), .int (jk_b late)] h = some (some (.int (jk_on (jn_seek f k w mm late mn))), h) := fun k w hk mn hmn late => rf_found H hn hk hm hmn late d
  have F1 : jx_C rc (d + 7) 181 [.ref b, .int 5, .int (Int32.ofNat mm), .int 0, .int 12, .int 0] h = some (some (.int (jk_on (jn_seek f 5 0 mm false 1))), h) := by rw [jn_seek_mn (Or.inr (Or.inr rfl)) false (Or.inr ⟨rfl, by decide⟩)]; exact F 5 0 (Or.inr (Or.inr rfl)) 12 (by decide) false
  have F2 : jx_C rc (d + 7) 181 [.ref b, .int 4, .int (Int32.ofNat mm), .int 0, .int 12, .int 0] h = some (some (.int (jk_on (jn_seek f 4 0 mm false 2))), h) := by rw [jn_seek_mn (Or.inr (Or.inl rfl)) false (Or.inl (by decide))]; exact F 4 0 (Or.inr (Or.inl rfl)) 12 (by decide) false
  have F3 : jx_C rc (d + 7) 181 [.ref b, .int 0, .int (Int32.ofNat mm), .int (-1), .int 12, .int 0] h = some (some (.int (jk_on (jn_seek f 0 (-1) mm false 2))), h) := by rw [jn_seek_mn (Or.inl rfl) false (Or.inl (by decide))]; exact F 0 (-1) (Or.inl rfl) 12 (by decide) false
  have F4 : jx_C rc (d + 7) 181 [.ref b, .int 0, .int (Int32.ofNat mm), .int (-1), .int 12, .int 1] h = some (some (.int (jk_on (jn_seek f 0 (-1) mm true 2))), h) := by rw [jn_seek_mn (Or.inl rfl) true (Or.inl (by decide))]; exact F 0 (-1) (Or.inl rfl) 12 (by decide) true
  have F5 : jx_C rc (d + 7) 181 [.ref b, .int 0, .int (Int32.ofNat mm), .int 1, .int 12, .int 0] h = some (some (.int (jk_on (jn_seek f 0 1 mm false 2))), h) := by rw [jn_seek_mn (Or.inl rfl) false (Or.inl (by decide))]; exact F 0 1 (Or.inl rfl) 12 (by decide) false
  have F6 : jx_C rc (d + 7) 181 [.ref b, .int 0, .int (Int32.ofNat mm), .int 1, .int 12, .int 1] h = some (some (.int (jk_on (jn_seek f 0 1 mm true 2))), h) := by rw [jn_seek_mn (Or.inl rfl) true (Or.inl (by decide))]; exact F 0 1 (Or.inl rfl) 12 (by decide) true
  have F7 : jx_C rc (d + 7) 181 [.ref b, .int 0, .int (Int32.ofNat mm), .int (-1), .int 1, .int 0] h = some (some (.int (jk_on (jn_seek f 0 (-1) mm false 1))), h) := F 0 (-1) (Or.inl rfl) 1 (by decide) false
  have L : ∀ {k w : Int32} {late : Bool} {mn : Nat}, ∀ j, jn_seek f k w mm late mn = some j → j < 12 := fun j e => (jn_seek_lt e).1
  rw [je_182]
  by_cases c4 : kind = 4
  · subst c4
    rw [show jn_plan f 4 mm = jn_or (jn_mk 5 (jn_seek f 5 0 mm false 1)) (jn_or (jn_mk 4 (jn_seek f 4 0 mm false 2)) (jn_mk 0 (jn_seek f 0 (-1) mm false 2))) from rfl]
    simp only [if_true, F1, jk_cI, jk_on_lt0 (L (k := 5) (w := 0) (late := false) (mn := 1)), je_182_19, je_182_25, F2, jk_on_lt0 (L (k := 4) (w := 0) (late := false) (mn := 2)), je_182_55, F3, jk_on_ge0 (L (k := 0) (w := -1) (late := false) (mn := 2))]
    cases e1 : jn_seek f 5 0 mm false 1 with
    | some j => simp [jn_mk, jn_or, jn_code, jk_on]
    | none =>
      cases e2 : jn_seek f 4 0 mm false 2 with
      | some j => simp [jn_mk, jn_or, jn_code, jk_on]
      | none =>
        cases e3 : jn_seek f 0 (-1) mm false 2 with
        | some j => simp [jn_mk, jn_or, jn_code, jk_on]
        | none => simp [jn_mk, jn_or, jn_code, jk_on]
  · rw [if_neg c4, je_182_19]
    by_cases c2 : kind = 2
    · subst c2
      rw [show jn_plan f 2 mm = jn_or (jn_mk 4 (jn_seek f 4 0 mm false 2)) (jn_mk 0 (jn_seek f 0 (-1) mm false 2)) from rfl]
      simp only [if_true, jk_cI, je_182_25, F2, jk_on_lt0 (L (k := 4) (w := 0) (late := false) (mn := 2)), je_182_55, F3, jk_on_ge0 (L (k := 0) (w := -1) (late := false) (mn := 2))]
      cases e2 : jn_seek f 4 0 mm false 2 with
      | some j => simp [jn_mk, jn_or, jn_code, jk_on]
      | none =>
        cases e3 : jn_seek f 0 (-1) mm false 2 with
        | some j => simp [jn_mk, jn_or, jn_code, jk_on]
        | none => simp [jn_mk, jn_or, jn_code, jk_on]
    · rw [if_neg c2, if_neg c4]
      by_cases c5 : kind = 5
      · subst c5
        rw [show jn_plan f 5 mm = jn_mk 0 (jn_seek f 0 (-1) mm false 1) from rfl]
        rw [if_pos rfl, if_neg (by decide), je_182_55, F7, jk_cI]
        simp only [jk_on_ge0 (L (k := 0) (w := -1) (late := false) (mn := 1))]
        cases e3 : jn_seek f 0 (-1) mm false 1 with
        | some j => simp [jn_mk, jn_code, jk_on]
        | none => simp [jn_mk, jn_code, jk_on]
      · rw [if_neg c5]
        by_cases c3 : kind = 3
        · subst c3
          rw [show jn_plan f 3 mm = jn_or (jn_mk 0 (jn_seek f 0 (-1) mm true 2)) (jn_mk 0 (jn_seek f 0 1 mm true 2)) from rfl]
          rw [if_pos rfl, je_182_55, F4, jk_cI]
          simp only [jk_on_ge0 (L (k := 0) (w := -1) (late := true) (mn := 2))]
          cases e3 : jn_seek f 0 (-1) mm true 2 with
          | some j => simp [jn_mk, jn_or, jn_code, jk_on]
          | none =>
            rw [if_neg (by simp), if_neg (by decide), if_pos trivial, if_pos trivial, F6, jk_cI]
            cases e4 : jn_seek f 0 1 mm true 2 with
            | some j => simp [jn_mk, jn_or, jn_code, jk_on]
            | none => simp [jn_mk, jn_or, jn_code, jk_on]
        · rw [if_neg c3, je_182_55, F3, jk_cI]
          simp only [jk_on_ge0 (L (k := 0) (w := -1) (late := false) (mn := 2))]
          by_cases c1 : kind = 1
          · subst c1
            rw [show jn_plan f 1 mm = jn_or (jn_mk 0 (jn_seek f 0 (-1) mm false 2)) (jn_mk 0 (jn_seek f 0 1 mm false 2)) from rfl]
            cases e3 : jn_seek f 0 (-1) mm false 2 with
            | some j => simp [jn_mk, jn_or, jn_code, jk_on]
            | none =>
              rw [if_neg (by simp), if_pos rfl, if_neg (by decide), F5, jk_cI]
              cases e4 : jn_seek f 0 1 mm false 2 with
              | some j => simp [jn_mk, jn_or, jn_code, jk_on]
              | none => simp [jn_mk, jn_or, jn_code, jk_on]
          · have : jn_plan f kind mm = jn_mk 0 (jn_seek f 0 (-1) mm false 2) := by unfold jn_plan; rw [if_neg c1, if_neg c2, if_neg c3, if_neg c4, if_neg c5]
            rw [this, if_neg c1, if_neg c3]
            cases e3 : jn_seek f 0 (-1) mm false 2 with
            | some j => simp [jn_mk, jn_code, jk_on]
            | none => simp [jn_mk, jn_code, jk_on]
end
