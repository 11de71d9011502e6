/-! Without rings: of every set of vertices there are fewer edges within than vertices -/
def js (g : Nat → Int) : Nat → Int
  | 0 => 0
  | n + 1 => js g n + g n
theorem js_congr {g h : Nat → Int} : ∀ {n : Nat}, (∀ k, k < n → g k = h k) → js g n = js h n
  | 0, _ => rfl
  | n + 1, e => by
    show js g n + g n = js h n + h n
    rw [js_congr (fun k hk => e k (by omega)), e n (by omega)]
theorem js_le {g h : Nat → Int} : ∀ {n : Nat}, (∀ k, k < n → g k ≤ h k) → js g n ≤ js h n
  | 0, _ => Int.le_refl _
  | n + 1, e => by
    show js g n + g n ≤ js h n + h n
    have := js_le (n := n) (fun k hk => e k (by omega))
    have := e n (by omega)
    omega
theorem js_add (g h : Nat → Int) : ∀ n : Nat, js (fun k => g k + h k) n = js g n + js h n
  | 0 => rfl
  | n + 1 => by
    show js _ n + (g n + h n) = js g n + g n + (js h n + h n)
    rw [js_add g h n]; omega
theorem js_0 : ∀ n : Nat, js (fun _ => 0) n = 0
  | 0 => rfl
  | n + 1 => by show js _ n + 0 = 0; rw [js_0 n]; rfl
theorem js_delta {v : Nat} (g : Nat → Int) : ∀ {n : Nat}, js (fun k => if k = v then g k else 0) n = if v < n then g v else 0
  | 0 => by simp [js]
  | n + 1 => by
    show js _ n + (if n = v then g n else 0) = _
    rw [js_delta g]
    by_cases h : n = v
    · subst h; simp
    · by_cases h2 : v < n
      · simp [h, h2, show v < n + 1 by omega]
      · simp [h, h2, show ¬ v < n + 1 by omega]
theorem js_nonneg {g : Nat → Int} {n : Nat} (h : ∀ k, k < n → 0 ≤ g k) : 0 ≤ js g n := by
  have := js_le (g := fun _ => 0) (h := g) (n := n) h
  rwa [js_0] at this
def i01 (b : Bool) : Int := if b then 1 else 0
theorem i01_nn (b : Bool) : 0 ≤ i01 b := by cases b <;> decide
theorem i01_le (b : Bool) : i01 b ≤ 1 := by cases b <;> decide
/-- twice the edges within -/
def dU (U : Nat → Bool) (e : Nat → Nat → Bool) : Int := js (fun x => js (fun y => i01 (U x && U y && e x y)) 12) 12
def cU (U : Nat → Bool) : Int := js (fun x => i01 (U x)) 12
def AC (e : Nat → Nat → Bool) (s : Nat → Bool) : Prop := ∀ U : Nat → Bool, (∀ x, U x = true → x < 12 ∧ s x = true) → (∃ x, U x = true) → dU U e ≤ 2 * cU U - 2
/-- one more in a set -/
def uA (U : Nat → Bool) (v : Nat) : Nat → Bool := fun x => U x || decide (x = v)
def uD (U : Nat → Bool) (v : Nat) : Nat → Bool := fun x => U x && !decide (x = v)
theorem uA_uD {U : Nat → Bool} {v : Nat} (h : U v = true) : uA (uD U v) v = U := by
  funext x
  unfold uA uD
  by_cases q : x = v
  · subst q; simp [h]
  · simp [q]
theorem cU_add {U : Nat → Bool} {v : Nat} (hv : v < 12) (h : U v = false) : cU (uA U v) = cU U + 1 := by
  unfold cU
  rw [show (fun x => i01 (uA U v x)) = fun x => i01 (U x) + (if x = v then (fun _ => (1 : Int)) x else 0) from funext fun x => by
    unfold uA
    by_cases q : x = v
    · subst q; simp [h, i01]
    · simp [q]]
  rw [js_add, js_delta, if_pos hv]
theorem cU_nn (U : Nat → Bool) : 0 ≤ cU U := js_nonneg fun _ _ => i01_nn _
theorem cU_pos {U : Nat → Bool} {v : Nat} (hv : v < 12) (h : U v = true) : 1 ≤ cU U := by
  rw [← uA_uD h, cU_add hv (by unfold uD; simp)]
  have := cU_nn (uD U v)
  omega
theorem dU_nn (U : Nat → Bool) (e : Nat → Nat → Bool) : 0 ≤ dU U e := js_nonneg fun _ _ => js_nonneg fun _ _ => i01_nn _
theorem dU_mono {U : Nat → Bool} {e e' : Nat → Nat → Bool} (h : ∀ x y, x < 12 → y < 12 → U x = true → U y = true → e x y = true → e' x y = true) : dU U e ≤ dU U e' := by
  apply js_le; intro x hx; apply js_le; intro y hy
  cases a : U x
  · simp [i01]
  · cases b : U y
    · simp [i01]
    · cases c : e x y
      · simp [i01]; split <;> decide
      · simp [h x y hx hy a b c]
theorem dU_congr {U : Nat → Bool} {e e' : Nat → Nat → Bool} (h : ∀ x y, x < 12 → y < 12 → U x = true → U y = true → e x y = e' x y) : dU U e = dU U e' := by
  have a := dU_mono (U := U) (e := e) (e' := e') (fun x y hx hy u v w => by rw [← h x y hx hy u v]; exact w)
  have b := dU_mono (U := U) (e := e') (e' := e) (fun x y hx hy u v w => by rw [h x y hx hy u v]; exact w)
  omega
/-- how many of a set are next to one -/
def nU (U : Nat → Bool) (n : Nat → Bool) : Int := js (fun y => i01 (U y && n y)) 12
theorem dU_star {U : Nat → Bool} {e e' : Nat → Nat → Bool} {a : Nat} {n : Nat → Bool} (ha : a < 12) (h : ∀ x y, x < 12 → y < 12 → i01 (U x && U y && e' x y) ≤ i01 (U x && U y && e x y) + (if x = a then i01 (U y && n y) else 0) + (if y = a then i01 (U x && n x) else 0)) : dU U e' ≤ dU U e + 2 * nU U n := by
  have h1 : dU U e' ≤ js (fun x => js (fun y => i01 (U x && U y && e x y) + (if x = a then i01 (U y && n y) else 0) + (if y = a then i01 (U x && n x) else 0)) 12) 12 := js_le fun x hx => js_le fun y hy => h x y hx hy
  have h2 : ∀ x, js (fun y => i01 (U x && U y && e x y) + (if x = a then i01 (U y && n y) else 0) + (if y = a then i01 (U x && n x) else 0)) 12 = js (fun y => i01 (U x && U y && e x y)) 12 + (if x = a then nU U n else 0) + i01 (U x && n x) := fun x => by
    rw [js_add, js_add, js_delta (g := fun _ => i01 (U x && n x)), if_pos ha]
    by_cases q : x = a
    · simp only [if_pos q]; rfl
    · simp only [if_neg q, js_0]
  rw [show (fun x => js (fun y => i01 (U x && U y && e x y) + (if x = a then i01 (U y && n y) else 0) + (if y = a then i01 (U x && n x) else 0)) 12) = fun x => js (fun y => i01 (U x && U y && e x y)) 12 + (if x = a then nU U n else 0) + i01 (U x && n x) from funext h2, js_add, js_add, js_delta (g := fun _ => nU U n), if_pos ha] at h1
  unfold nU dU at *
  omega
theorem dU_star_eq {U : Nat → Bool} {e e' : Nat → Nat → Bool} {a : Nat} {n : Nat → Bool} (ha : a < 12) (h : ∀ x y, x < 12 → y < 12 → i01 (U x && U y && e' x y) = i01 (U x && U y && e x y) + (if x = a then i01 (U y && n y) else 0) + (if y = a then i01 (U x && n x) else 0)) : dU U e' = dU U e + 2 * nU U n := by
  have h1 : dU U e' = js (fun x => js (fun y => i01 (U x && U y && e x y) + (if x = a then i01 (U y && n y) else 0) + (if y = a then i01 (U x && n x) else 0)) 12) 12 := js_congr fun x hx => js_congr fun y hy => h x y hx hy
  have h2 : ∀ x, js (fun y => i01 (U x && U y && e x y) + (if x = a then i01 (U y && n y) else 0) + (if y = a then i01 (U x && n x) else 0)) 12 = js (fun y => i01 (U x && U y && e x y)) 12 + (if x = a then nU U n else 0) + i01 (U x && n x) := fun x => by
    rw [js_add, js_add, js_delta (g := fun _ => i01 (U x && n x)), if_pos ha]
    by_cases q : x = a
    · simp only [if_pos q]; rfl
    · simp only [if_neg q, js_0]
  rw [show (fun x => js (fun y => i01 (U x && U y && e x y) + (if x = a then i01 (U y && n y) else 0) + (if y = a then i01 (U x && n x) else 0)) 12) = fun x => js (fun y => i01 (U x && U y && e x y)) 12 + (if x = a then nU U n else 0) + i01 (U x && n x) from funext h2, js_add, js_add, js_delta (g := fun _ => nU U n), if_pos ha] at h1
  unfold nU dU at *
  omega
theorem dU_add {U : Nat → Bool} {e : Nat → Nat → Bool} {v : Nat} (hv : v < 12) (hU : U v = false) (sym : ∀ x y, x < 12 → y < 12 → e x y = e y x) (irr : e v v = false) : dU (uA U v) e = dU U e + 2 * nU U (e v) := by
  have h1 : dU (uA U v) e = js (fun x => js (fun y => i01 (U x && U y && e x y) + (if x = v then i01 (U y && e v y) else 0) + (if y = v then i01 (U x && e v x) else 0)) 12) 12 := by
    apply js_congr; intro x hx; apply js_congr; intro y hy
    unfold uA
    by_cases q : x = v
    · subst q
      by_cases r : y = x
      · subst r; simp [hU, irr, i01]
      · simp [hU, r, i01]
    · by_cases r : y = v
      · subst r
        rw [sym x y hx hy]
        simp [hU, q, i01]
      · simp [q, r]
  have h2 : ∀ x, js (fun y => i01 (U x && U y && e x y) + (if x = v then i01 (U y && e v y) else 0) + (if y = v then i01 (U x && e v x) else 0)) 12 = js (fun y => i01 (U x && U y && e x y)) 12 + (if x = v then nU U (e v) else 0) + i01 (U x && e v x) := fun x => by
    rw [js_add, js_add, js_delta (g := fun _ => i01 (U x && e v x)), if_pos hv]
    by_cases q : x = v
    · simp only [if_pos q]; rfl
    · simp only [if_neg q, js_0]
  rw [show (fun x => js (fun y => i01 (U x && U y && e x y) + (if x = v then i01 (U y && e v y) else 0) + (if y = v then i01 (U x && e v x) else 0)) 12) = fun x => js (fun y => i01 (U x && U y && e x y)) 12 + (if x = v then nU U (e v) else 0) + i01 (U x && e v x) from funext h2, js_add, js_add, js_delta (g := fun _ => nU U (e v)), if_pos hv] at h1
  unfold nU dU at *
  omega
theorem nU_nn (U n : Nat → Bool) : 0 ≤ nU U n := js_nonneg fun _ _ => i01_nn _
theorem nU_mono {U U' n n' : Nat → Bool} (h : ∀ y, y < 12 → U y = true → n y = true → U' y = true ∧ n' y = true) : nU U n ≤ nU U' n' := by
  apply js_le; intro y hy
  cases a : U y
  · simp [i01]; split <;> decide
  · cases b : n y
    · simp [i01]; split <;> decide
    · rw [(h y hy a b).1, (h y hy a b).2]; simp
theorem nU_0 {U n : Nat → Bool} (h : ∀ y, y < 12 → U y = true → n y = false) : nU U n = 0 := by
  unfold nU
  rw [js_congr (h := fun _ => 0) (fun y hy => by
    cases a : U y
    · simp [i01]
    · rw [h y hy a]; simp [i01]), js_0]
theorem nU_add {U n : Nat → Bool} {v : Nat} (hv : v < 12) (h : U v = false) : nU (uA U v) n = nU U n + i01 (n v) := by
  unfold nU
  rw [show (fun y => i01 (uA U v y && n y)) = fun y => i01 (U y && n y) + (if y = v then (fun y => i01 (n y)) y else 0) from funext fun x => by
    unfold uA
    by_cases q : x = v
    · subst q; simp [h, i01]
    · simp [q]]
  rw [js_add, js_delta, if_pos hv]
theorem nU_one {U n : Nat → Bool} {a : Nat} (ha : a < 12) (h1 : U a = true) (h2 : n a = true) : 1 ≤ nU U n := by
  rw [← uA_uD h1, nU_add ha (by unfold uD; simp), h2]
  have := nU_nn (uD U a) n
  simp [i01]; omega
theorem nU_two {U n : Nat → Bool} {a b : Nat} (ha : a < 12) (hb : b < 12) (hab : a ≠ b) (h1 : U a = true) (h2 : n a = true) (h3 : U b = true) (h4 : n b = true) : 2 ≤ nU U n := by
  rw [← uA_uD h1, nU_add ha (by unfold uD; simp), h2]
  have := nU_one (U := uD U a) (n := n) hb (by unfold uD; simp [h3]; exact fun q => hab q.symm) h4
  simp [i01]; omega
theorem nU_at1 {U n : Nat → Bool} {a : Nat} (ha : a < 12) (h : ∀ y, y < 12 → n y = true → y = a) : nU U n ≤ i01 (U a) := by
  have : nU U n ≤ js (fun y => if y = a then (fun y => i01 (U y)) y else 0) 12 := js_le fun y hy => by
    by_cases q : y = a
    · subst q; simp; cases U y <;> simp [i01]; split <;> decide
    · cases b : n y
      · simp [q, i01]
      · exact absurd (h y hy b) q
  rw [js_delta, if_pos ha] at this
  exact this
theorem AC_mono {e e' : Nat → Nat → Bool} {s s' : Nat → Bool} (h : AC e s) (hs : ∀ x, x < 12 → s' x = true → s x = true) (he : ∀ x y, x < 12 → y < 12 → s' x = true → s' y = true → e' x y = true → e x y = true) : AC e' s' := fun U hU hn => by
  have a := h U (fun x hx => ⟨(hU x hx).1, hs x (hU x hx).1 (hU x hx).2⟩) hn
  have b := dU_mono (U := U) (e := e') (e' := e) (fun x y hx hy u v w => he x y hx hy (hU x u).2 (hU y v).2 w)
  omega
/-- one more, alone -/
theorem AC_lone {e : Nat → Nat → Bool} {s s' : Nat → Bool} {c : Nat} (hc : c < 12) (h : AC e s) (sym : ∀ x y, x < 12 → y < 12 → e x y = e y x) (iso : ∀ y, y < 12 → e c y = false) (hs : ∀ x, x < 12 → s' x = true → x = c ∨ s x = true) {U : Nat → Bool} (hU : ∀ x, U x = true → x < 12 ∧ s' x = true) (hcU : U c = true) : (dU U e ≤ 2 * cU U - 2) ∧ ((∃ x, x ≠ c ∧ U x = true) → dU U e ≤ 2 * cU U - 4) := by
  have u0 : uD U c c = false := by unfold uD; simp
  have h1 := dU_add (U := uD U c) (e := e) hc u0 sym (iso c hc)
  rw [uA_uD hcU, nU_0 (fun y hy _ => iso y hy)] at h1
  have h2 := cU_add (U := uD U c) hc u0
  rw [uA_uD hcU] at h2
  have hv : ∀ x, uD U c x = true → x < 12 ∧ s x = true := fun x hx => by
    unfold uD at hx
    simp at hx
    obtain ⟨a, b⟩ := hU x hx.1
    exact ⟨a, (hs x a b).resolve_left hx.2⟩
  by_cases q : ∃ x, uD U c x = true
  · have := h (uD U c) hv q
    exact ⟨by omega, fun _ => by omega⟩
  · have z : dU (uD U c) e = 0 := by
      unfold dU
      rw [js_congr (h := fun _ => 0) (fun x _ => ?_), js_0]
      rw [js_congr (h := fun _ => 0) (fun y _ => ?_), js_0]
      cases r : uD U c x
      · simp [i01]
      · exact absurd ⟨x, r⟩ q
    have := cU_nn (uD U c)
    refine ⟨by omega, fun ⟨x, x1, x2⟩ => absurd ⟨x, ?_⟩ q⟩
    unfold uD; simp [x2, x1]
theorem AC_grow {e : Nat → Nat → Bool} {s s' : Nat → Bool} {c : Nat} (hc : c < 12) (h : AC e s) (sym : ∀ x y, x < 12 → y < 12 → e x y = e y x) (iso : ∀ y, y < 12 → e c y = false) (hs : ∀ x, x < 12 → s' x = true → x = c ∨ s x = true) : AC e s' := fun U hU hn => by
  by_cases hcU : U c = true
  · exact (AC_lone hc h sym iso hs hU hcU).1
  · refine h U (fun x hx => ⟨(hU x hx).1, (hs x (hU x hx).1 (hU x hx).2).resolve_left fun q => hcU (q ▸ hx)⟩) hn
theorem dU_edge {U : Nat → Bool} {e e' : Nat → Nat → Bool} {p q : Nat} (hp : p < 12) (hq' : q < 12) (he : ∀ x y, x < 12 → y < 12 → e' x y = true → e x y = true ∨ (x = p ∧ y = q) ∨ (x = q ∧ y = p)) : dU U e' ≤ dU U e + 2 * i01 (U p && U q) := by
  cases hq : U p && U q
  · have : dU U e' ≤ dU U e := dU_mono fun x y hx hy u v w => by
      rcases he x y hx hy w with h | ⟨h1, h2⟩ | ⟨h1, h2⟩
      · exact h
      · rw [h1] at u; rw [h2] at v; rw [u, v] at hq; cases hq
      · rw [h1] at u; rw [h2] at v; rw [u, v] at hq; cases hq
    simp [i01]; exact this
  · simp at hq
    have h1 := dU_star (U := U) (e := e) (e' := e') (a := p) (n := fun y => decide (y = q)) hp (fun x y hx hy => by
      cases u : U x
      · simp [i01]; split <;> (try split) <;> simp
      · cases v : U y
        · simp [i01]; split <;> (try split) <;> simp
        · cases w : e' x y
          · simp [i01]; grind
          · rcases he x y hx hy w with h | ⟨h1, h2⟩ | ⟨h1, h2⟩
            · simp [h, i01]; grind
            · simp [h1, h2, i01]; grind
            · simp [h1, h2, i01]; grind)
    have h2 := nU_at1 (U := U) (n := fun y => decide (y = q)) (a := q) hq' (fun y _ h => by simpa using h)
    have h3 := i01_le (U q)
    rw [hq.2] at h2
    have : i01 true = 1 := rfl
    omega
/-- an edge between two: if they hung together by nothing -/
theorem AC_join {e e' : Nat → Nat → Bool} {s : Nat → Bool} {p q : Nat} (hp : p < 12) (hq : q < 12) (h : AC e s) (he : ∀ x y, x < 12 → y < 12 → e' x y = true → e x y = true ∨ (x = p ∧ y = q) ∨ (x = q ∧ y = p)) (hH : ∀ U : Nat → Bool, (∀ x, U x = true → x < 12 ∧ s x = true) → U p = true → U q = true → dU U e ≤ 2 * cU U - 4) : AC e' s := fun U hU hn => by
  have h1 := dU_edge (U := U) (e := e) hp hq he
  cases r : U p && U q
  · rw [r] at h1
    have := h U hU hn
    have : i01 false = 0 := rfl
    omega
  · rw [r] at h1
    simp at r
    have := hH U hU r.1 r.2
    have : i01 true = 1 := rfl
    omega
theorem dU_split {U T : Nat → Bool} {e : Nat → Nat → Bool} (hT : ∀ x y, x < 12 → y < 12 → U x = true → U y = true → e x y = true → T x = T y) : dU U e = dU (fun x => U x && T x) e + dU (fun x => U x && !T x) e := by
  unfold dU
  rw [← js_add]
  apply js_congr; intro x hx
  rw [← js_add]
  apply js_congr; intro y hy
  cases a : U x
  · simp [i01, a]
  · cases b : U y
    · simp [i01, a, b]
    · cases c : e x y
      · simp [i01, c]
      · have := hT x y hx hy a b c
        cases d : T x
        · rw [d] at this; simp [← this, i01, a, b, d]
        · rw [d] at this; simp [← this, i01, a, b, d]
theorem cU_split {U T : Nat → Bool} : cU U = cU (fun x => U x && T x) + cU (fun x => U x && !T x) := by
  unfold cU
  rw [← js_add]
  apply js_congr; intro x hx
  cases a : U x
  · simp [i01, a]
  · cases d : T x <;> simp [i01, a, d]
/-- an edge from one tree to another -/
theorem AC_tie {e e' : Nat → Nat → Bool} {s T : Nat → Bool} {p q : Nat} (hp : p < 12) (hq : q < 12) (h : AC e s) (hT : ∀ x y, x < 12 → y < 12 → e x y = true → T x = T y) (tp : T p = true) (tq : T q = false) (he : ∀ x y, x < 12 → y < 12 → e' x y = true → e x y = true ∨ (x = p ∧ y = q) ∨ (x = q ∧ y = p)) : AC e' s :=
  AC_join hp hq h he fun U hU u v => by
    rw [dU_split (T := T) (fun x y hx hy _ _ w => hT x y hx hy w), cU_split (U := U) (T := T)]
    have h1 := h (fun x => U x && T x) (fun x hx => hU x (by simp at hx; exact hx.1)) ⟨p, by simp [u, tp]⟩
    have h2 := h (fun x => U x && !T x) (fun x hx => hU x (by simp at hx; exact hx.1)) ⟨q, by simp [v, tq]⟩
    omega
theorem AC_down {e e0 e' : Nat → Nat → Bool} {s s' : Nat → Bool} {p a b : Nat} (hp : p < 12) (ha : a < 12) (hb : b < 12) (hab : a ≠ b) (h : AC e s) (sym : ∀ x y, x < 12 → y < 12 → e x y = e y x) (irr : e p p = false) (sp : s p = true) (hs : ∀ x, x < 12 → s' x = true → s x = true ∧ x ≠ p) (pa : e p a = true) (pb : e p b = true) (he : ∀ x y, x < 12 → y < 12 → s' x = true → s' y = true → e' x y = true → e x y = true ∨ (x = a ∧ y = b) ∨ (x = b ∧ y = a)) : AC e' s' := fun U hU hn => by
  have h1 := dU_edge (U := U) (e := e) (e' := fun x y => s' x && s' y && e' x y) ha hb (fun x y hx hy w => by simp at w; exact he x y hx hy w.1.1 w.1.2 w.2)
  have h0 : dU U (fun x y => s' x && s' y && e' x y) = dU U e' := dU_congr fun x y hx hy u v => by simp [(hU x u).2, (hU y v).2]
  have hv : ∀ x, U x = true → x < 12 ∧ s x = true := fun x hx => ⟨(hU x hx).1, (hs x (hU x hx).1 (hU x hx).2).1⟩
  cases r : U a && U b
  · rw [r] at h1
    have := h U hv hn
    have : i01 false = 0 := rfl
    omega
  · rw [r] at h1
    simp at r
    have up : U p = false := by
      cases q : U p
      · rfl
      · exact absurd rfl (hs p hp (hU p q).2).2
    have h2 := dU_add (U := U) (e := e) hp up sym irr
    have h3 := cU_add (U := U) hp up
    have h4 := nU_two (U := U) (n := e p) ha hb hab r.1 pa r.2 pb
    have h5 := h (uA U p) (fun x hx => by
      unfold uA at hx
      simp at hx
      rcases hx with hx | hx
      · exact hv x hx
      · subst hx; exact ⟨hp, sp⟩) ⟨p, by unfold uA; simp⟩
    have : i01 true = 1 := rfl
    omega
theorem AC_absorb {e e' : Nat → Nat → Bool} {s s' : Nat → Bool} {p a b : Nat} (hp : p < 12) (ha : a < 12) (hb : b < 12) (hab : a ≠ b) (h : AC e s) (sym : ∀ x y, x < 12 → y < 12 → e x y = e y x) (irr : ∀ x, x < 12 → e x x = false) (sp : s p = true) (sb : s b = true) (hs : ∀ x, x < 12 → s' x = true → s x = true ∧ x ≠ p ∧ x ≠ b) (pa : e p a = true) (pb : e p b = true) (he : ∀ x y, x < 12 → y < 12 → s' x = true → s' y = true → e' x y = true → e x y = true ∨ (x = a ∧ e b y = true) ∨ (y = a ∧ e b x = true)) : AC e' s' := fun U hU hn => by
  have hv : ∀ x, U x = true → x < 12 ∧ s x = true := fun x hx => ⟨(hU x hx).1, (hs x (hU x hx).1 (hU x hx).2).1⟩
  have up : U p = false := by
    cases q : U p
    · rfl
    · exact absurd rfl (hs p hp (hU p q).2).2.1
  have ub : U b = false := by
    cases q : U b
    · rfl
    · exact absurd rfl (hs b hb (hU b q).2).2.2
  cases r : U a
  · have : dU U e' ≤ dU U e := dU_mono fun x y hx hy u v w => by
      rcases he x y hx hy (hU x u).2 (hU y v).2 w with h | ⟨h1, -⟩ | ⟨h1, -⟩
      · exact h
      · rw [h1, r] at u; cases u
      · rw [h1, r] at v; cases v
    have := h U hv hn
    omega
  · have h1 := dU_star (U := U) (e := e) (e' := e') (a := a) (n := e b) ha (fun x y hx hy => by
      cases u : U x
      · simp [i01]; split <;> (try split) <;> simp
      · cases v : U y
        · simp [i01]; split <;> (try split) <;> simp
        · cases w : e' x y
          · simp [i01]; grind
          · rcases he x y hx hy (hU x u).2 (hU y v).2 w with h | ⟨h1, h2⟩ | ⟨h1, h2⟩
            · simp [h, i01]; grind
            · simp [h1, h2, i01]; grind
            · simp [h1, h2, i01]; grind)
    have h2 := dU_add (U := U) (e := e) hb ub sym (irr b hb)
    have h3 := cU_add (U := U) hb ub
    have bp : b ≠ p := fun q => by rw [q, irr p hp] at pb; cases pb
    have up' : uA U b p = false := by unfold uA; simp [up]; exact fun q => bp q.symm
    have h4 := dU_add (U := uA U b) (e := e) hp up' sym (irr p hp)
    have h5 := cU_add (U := uA U b) hp up'
    have h6 := nU_two (U := uA U b) (n := e p) ha hb hab (by unfold uA; simp [r]) pa (by unfold uA; simp) pb
    have h7 := h (uA (uA U b) p) (fun x hx => by
      unfold uA at hx
      simp at hx
      rcases hx with (hx | hx) | hx
      · exact hv x hx
      · subst hx; exact ⟨hb, sb⟩
      · subst hx; exact ⟨hp, sp⟩) ⟨p, by unfold uA; simp⟩
    omega
/-- in an edge between p and q a new one, c -/
theorem AC_up {e e' : Nat → Nat → Bool} {s s' : Nat → Bool} {p q c : Nat} (hp : p < 12) (hq : q < 12) (hc : c < 12) (hpq : p ≠ q) (cp : c ≠ p) (cq : c ≠ q) (h : AC e s) (sym : ∀ x y, x < 12 → y < 12 → e x y = e y x) (irr : ∀ x, x < 12 → e x x = false) (iso : ∀ y, y < 12 → e c y = false) (epq : e p q = true) (hs : ∀ x, x < 12 → s' x = true → x = c ∨ s x = true) (he : ∀ x y, x < 12 → y < 12 → e' x y = ((e x y && !(decide (x = p ∧ y = q)) && !(decide (x = q ∧ y = p))) || decide (x = c ∧ (y = p ∨ y = q)) || decide (y = c ∧ (x = p ∨ x = q)))) : AC e' s' := fun U hU hn => by
  have sym' : ∀ x y, x < 12 → y < 12 → e' x y = e' y x := fun x y hx hy => by
    rw [he x y hx hy, he y x hy hx, sym x y hx hy]; grind
  have irr' : ∀ x, x < 12 → e' x x = false := fun x hx => by
    rw [he x x hx hx, irr x hx]; grind
  have hsub : ∀ V : Nat → Bool, V c = false → dU V e' ≤ dU V e := fun V vc => dU_mono fun x y hx hy u v w => by
    rw [he x y hx hy] at w
    have xc : x ≠ c := fun z => by rw [z, vc] at u; cases u
    have yc : y ≠ c := fun z => by rw [z, vc] at v; cases v
    simp [xc, yc] at w
    exact w.1.1
  cases r : U c
  · have h1 := hsub U r
    have := h U (fun x hx => ⟨(hU x hx).1, (hs x (hU x hx).1 (hU x hx).2).resolve_left fun z => by rw [z, r] at hx; cases hx⟩) hn
    omega
  · have u0 : uD U c c = false := by unfold uD; simp
    have h1 := dU_add (U := uD U c) (e := e') hc u0 sym' (irr' c hc)
    rw [uA_uD r] at h1
    have h2 := cU_add (U := uD U c) hc u0
    rw [uA_uD r] at h2
    have hv : ∀ x, uD U c x = true → x < 12 ∧ s x = true := fun x hx => by
      unfold uD at hx
      simp at hx
      obtain ⟨a, b⟩ := hU x hx.1
      exact ⟨a, (hs x a b).resolve_left hx.2⟩
    have hn' : nU (uD U c) (e' c) ≤ i01 (uD U c p) + i01 (uD U c q) := by
      have : nU (uD U c) (e' c) ≤ js (fun y => (if y = p then (fun y => i01 (uD U c y)) y else 0) + (if y = q then (fun y => i01 (uD U c y)) y else 0)) 12 := js_le fun y hy => by
        rw [he c y hc hy, iso y hy]
        cases z : uD U c y
        · simp [i01, z]
        · by_cases y1 : y = p
          · subst y1; simp [z, hpq, i01]
          · by_cases y2 : y = q
            · subst y2; simp [z, y1, i01]
            · simp [y1, y2, cp, cq, i01]
      rw [js_add, js_delta, js_delta, if_pos hp, if_pos hq] at this
      exact this
    by_cases z : ∃ x, uD U c x = true
    · have h3 := h (uD U c) hv z
      cases zp : uD U c p
      · have := hsub (uD U c) u0
        have := i01_le (uD U c q)
        have : i01 false = 0 := rfl
        rw [zp] at hn'
        omega
      · cases zq : uD U c q
        · have := hsub (uD U c) u0
          have : i01 false = 0 := rfl
          have : i01 true = 1 := rfl
          rw [zp, zq] at hn'
          omega
        · have h4 := dU_star_eq (U := uD U c) (e := e') (e' := e) (a := p) (n := fun y => decide (y = q)) hp (fun x y hx hy => by
            cases u : uD U c x
            · simp [i01]; grind
            · cases v : uD U c y
              · simp [i01]; grind
              · have xc : x ≠ c := fun z => by rw [z, u0] at u; cases u
                have yc : y ≠ c := fun z => by rw [z, u0] at v; cases v
                rw [he x y hx hy]
                simp [xc, yc, i01]
                by_cases x1 : x = p
                · subst x1
                  by_cases y1 : y = q
                  · subst y1; simp [epq, hpq, hpq.symm]
                  · simp [y1]; grind
                · by_cases y1 : y = p
                  · subst y1
                    by_cases x2 : x = q
                    · subst x2; simp [hpq.symm, sym x y hx hy, epq]
                    · simp [x1, x2]
                  · simp [x1, y1])
          have h5 := nU_one (U := uD U c) (n := fun y => decide (y = q)) hq zq (by simp)
          have : i01 true = 1 := rfl
          rw [zp, zq] at hn'
          omega
    · have z1 : dU (uD U c) e' = 0 := by
        unfold dU
        rw [js_congr (h := fun _ => 0) (fun x _ => ?_), js_0]
        rw [js_congr (h := fun _ => 0) (fun y _ => ?_), js_0]
        cases w : uD U c x
        · simp [i01]
        · exact absurd ⟨x, w⟩ z
      have zp : uD U c p = false := by
        cases w : uD U c p
        · rfl
        · exact absurd ⟨p, w⟩ z
      have zq : uD U c q = false := by
        cases w : uD U c q
        · rfl
        · exact absurd ⟨q, w⟩ z
      have := cU_nn (uD U c)
      have : i01 false = 0 := rfl
      rw [zp, zq] at hn'
      omega
set_option maxHeartbeats 1500000 in
/-- two new ones in a row from p, s moved behind them -/
theorem AC_draw {e e' : Nat → Nat → Bool} {s s' S : Nat → Bool} {p z c : Nat} (hp : p < 12) (hz : z < 12) (hc : c < 12) (zp : z ≠ p) (cp : c ≠ p) (zc : z ≠ c) (h : AC e s) (sp : s p = true) (sz : s z = false) (sc : s c = false) (sym : ∀ x y, x < 12 → y < 12 → e x y = e y x) (irr : ∀ x, x < 12 → e x x = false) (nb : ∀ x y, x < 12 → y < 12 → e x y = true → s x = true ∧ s y = true) (hS : ∀ x, x < 12 → S x = true → e p x = true) (hs : ∀ x, x < 12 → s' x = true → x = z ∨ x = c ∨ s x = true) (he : ∀ x y, x < 12 → y < 12 → e' x y = ((e x y && !(decide (x = p) && S y) && !(decide (y = p) && S x)) || (decide (x = c) && S y) || (decide (y = c) && S x) || decide (x = p ∧ y = z) || decide (x = z ∧ y = p) || decide (x = z ∧ y = c) || decide (x = c ∧ y = z))) : AC e' s' := fun U hU hn => by
  have Sp : S p = false := by
    cases q : S p
    · rfl
    · have := hS p hp q; rw [irr p hp] at this; cases this
  have Sz : S z = false := by
    cases q : S z
    · rfl
    · have := (nb p z hp hz (hS z hz q)).2; rw [sz] at this; cases this
  have Sc : S c = false := by
    cases q : S c
    · rfl
    · have := (nb p c hp hc (hS c hc q)).2; rw [sc] at this; cases this
  have ez : ∀ y, y < 12 → e z y = false := fun y hy => by
    cases q : e z y
    · rfl
    · have := (nb z y hz hy q).1; rw [sz] at this; cases this
  have ec : ∀ y, y < 12 → e c y = false := fun y hy => by
    cases q : e c y
    · rfl
    · have := (nb c y hc hy q).1; rw [sc] at this; cases this
  have sym' : ∀ x y, x < 12 → y < 12 → e' x y = e' y x := fun x y hx hy => by
    rw [he x y hx hy, he y x hy hx, sym x y hx hy]
    simp only [Bool.decide_and]
    have com : ∀ E xp yp xc yc xz yz sx sy : Bool, ((E && !(xp && sy) && !(yp && sx)) || (xc && sy) || (yc && sx) || (xp && yz) || (xz && yp) || (xz && yc) || (xc && yz)) = ((E && !(yp && sx) && !(xp && sy)) || (yc && sx) || (xc && sy) || (yp && xz) || (yz && xp) || (yz && xc) || (yc && xz)) := by decide +kernel
    exact com _ _ _ _ _ _ _ _ _
  have irr' : ∀ x, x < 12 → e' x x = false := fun x hx => by
    rw [he x x hx hx, irr x hx]
    by_cases x1 : x = p
    · subst x1; simp [zp.symm, cp.symm]
    · by_cases x2 : x = c
      · subst x2; simp [Sc, zc.symm]
      · simp [x1, x2]
  -- the old ones of U
  let V := uD (uD U z) c
  have Vz : V z = false := by show uD (uD U z) c z = false; unfold uD; simp
  have Vc : V c = false := by show uD (uD U z) c c = false; unfold uD; simp
  have hV : ∀ x, V x = true → x < 12 ∧ s x = true := fun x hx => by
    have hx' : uD (uD U z) c x = true := hx
    unfold uD at hx'
    simp at hx'
    obtain ⟨a, b⟩ := hU x hx'.1.1
    rcases hs x a b with w | w | w
    · exact absurd w hx'.1.2
    · exact absurd w hx'.2
    · exact ⟨a, w⟩
  have hVsub : dU V e' ≤ dU V e := dU_mono fun x y hx hy u v w => by
    rw [he x y hx hy] at w
    have x1 : x ≠ z := fun q => by rw [q, Vz] at u; cases u
    have x2 : x ≠ c := fun q => by rw [q, Vc] at u; cases u
    have y1 : y ≠ z := fun q => by rw [q, Vz] at v; cases v
    have y2 : y ≠ c := fun q => by rw [q, Vc] at v; cases v
    simp [x1, x2, y1, y2] at w
    exact w.1.1
  have hVe : (¬ ∃ x, V x = true) → dU V e' = 0 ∧ nU V S = 0 ∧ V p = false := fun q => by
    have q' : ∀ x, V x = false := fun x => by
      cases w : V x
      · rfl
      · exact absurd ⟨x, w⟩ q
    refine ⟨?_, nU_0 (U := V) (n := S) (fun y hy w => by rw [q' y] at w; cases w), q' p⟩
    unfold dU
    rw [js_congr (h := fun _ => 0) (fun x _ => ?_), js_0]
    rw [js_congr (h := fun _ => 0) (fun y _ => ?_), js_0]
    simp [q' x, i01]
  have hVn : (∃ x, V x = true) → dU V e ≤ 2 * cU V - 2 := fun q => h V hV q
  have cV := cU_nn V
  have nz : ∀ W : Nat → Bool, W z = false → nU W (e' z) ≤ i01 (W p) + i01 (W c) := fun W wz => by
    have : nU W (e' z) ≤ js (fun y => (if y = p then (fun y => i01 (W y)) y else 0) + (if y = c then (fun y => i01 (W y)) y else 0)) 12 := js_le fun y hy => by
      rw [he z y hz hy, ez y hy]
      cases w : W y
      · simp [i01, w]
      · by_cases y1 : y = p
        · subst y1; simp [w, cp.symm, i01]
        · by_cases y2 : y = c
          · subst y2; simp [w, y1, i01]
          · simp [y1, y2, zp, zc, i01, Sz]
    rw [js_add, js_delta, js_delta, if_pos hp, if_pos hc] at this
    exact this
  have nc : nU V (e' c) = nU V S := js_congr fun y hy => by
    rw [he c y hc hy, ec y hy]
    by_cases y1 : y = z
    · subst y1; simp [Vz, i01]
    · simp [y1, cp, Sc, zc.symm, i01]
  have i1 : i01 true = 1 := rfl
  have i0 : i01 false = 0 := rfl
  -- V with c
  have hc1 := dU_add (U := V) (e := e') hc Vc sym' (irr' c hc)
  have hc2 := cU_add (U := V) hc Vc
  have key : dU (uA V c) e' ≤ 2 * cU V ∧ (V p = true → dU (uA V c) e' ≤ 2 * cU V - 2) := by
    cases vp : V p
    · refine ⟨?_, fun q => by cases q⟩
      have k1 := dU_add (U := V) (e := e) hp vp sym (irr p hp)
      have k2 := cU_add (U := V) hp vp
      have k3 := h (uA V p) (fun x hx => by
        unfold uA at hx
        simp at hx
        rcases hx with hx | hx
        · exact hV x hx
        · subst hx; exact ⟨hp, sp⟩) ⟨p, by unfold uA; simp⟩
      have k4 : nU V S ≤ nU V (e p) := nU_mono fun y hy a b => ⟨a, hS y hy b⟩
      omega
    · have k1 := dU_star_eq (U := V) (e := e') (e' := e) (a := p) (n := S) hp (fun x y hx hy => by
        cases u : V x
        · by_cases a : x = p
          · subst a; rw [vp] at u; cases u
          · simp [i01, a]
        · cases v : V y
          · by_cases a : y = p
            · subst a; rw [vp] at v; cases v
            · simp [i01, a]
          · have x1 : x ≠ z := fun q => by rw [q, Vz] at u; cases u
            have x2 : x ≠ c := fun q => by rw [q, Vc] at u; cases u
            have y1 : y ≠ z := fun q => by rw [q, Vz] at v; cases v
            have y2 : y ≠ c := fun q => by rw [q, Vc] at v; cases v
            rw [he x y hx hy]
            simp [x1, x2, y1, y2, i01]
            by_cases xp : x = p
            · subst xp
              by_cases yp : y = x
              · subst yp; simp [irr y hy, Sp]
              · cases sy : S y
                · simp [yp, sy]
                · simp [yp, sy, hS y hy sy]
            · by_cases yp : y = p
              · subst yp
                cases sx : S x
                · simp [xp, sx]
                · simp [xp, sx, sym x y hx hy, hS x hx sx]
              · simp [xp, yp])
      have k2 := hVn ⟨p, vp⟩
      exact ⟨by omega, fun _ => by omega⟩
  cases rz : U z
  · have uz : uD U z = U := funext fun x => by
      unfold uD
      by_cases q : x = z
      · subst q; simp [rz]
      · simp [q]
    cases rc : U c
    · have uc : V = U := by
        show uD (uD U z) c = U
        rw [uz]
        funext x
        unfold uD
        by_cases q : x = c
        · subst q; simp [rc]
        · simp [q]
      rw [uc] at hVsub hVn
      have := hVn hn
      omega
    · have uc : uA V c = U := by
        show uA (uD (uD U z) c) c = U
        rw [uz, uA_uD rc]
      rw [uc] at key hc2
      have := key.1
      omega
  · have uz : uA (uD U z) z = U := uA_uD rz
    have u0 : uD U z z = false := by unfold uD; simp
    have hz1 := dU_add (U := uD U z) (e := e') hz u0 sym' (irr' z hz)
    have hz2 := cU_add (U := uD U z) hz u0
    have hz3 := nz (uD U z) u0
    rw [uz] at hz1 hz2
    cases rc : uD U z c
    · have uc : V = uD U z := by
        show uD (uD U z) c = uD U z
        funext x
        unfold uD
        by_cases q : x = c
        · subst q
          have : uD U z x = false := rc
          unfold uD at this
          simp [this]
        · simp [q]
      rw [uc] at hVsub hVn hVe cV
      rw [rc] at hz3
      have := i01_le (uD U z p)
      by_cases q : ∃ x, uD U z x = true
      · have := hVn q
        omega
      · obtain ⟨w1, -, w2⟩ := hVe q
        rw [w2] at hz3
        omega
    · have uc : uA V c = uD U z := by
        show uA (uD (uD U z) c) c = uD U z
        rw [uA_uD rc]
      have vp : V p = uD U z p := by
        show uD (uD U z) c p = uD U z p
        unfold uD
        simp [cp.symm]
      rw [uc] at key hc2
      rw [vp] at key
      rw [rc] at hz3
      cases q : uD U z p
      · rw [q] at hz3
        have := key.1
        omega
      · rw [q] at hz3
        have := key.2 q
        omega
