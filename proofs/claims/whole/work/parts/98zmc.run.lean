/-! INERTIA: the run from the last place to the first -/
section
variable {e : Nat → Nat → Int} {o : Nat → Nat} {par : Nat → Option Nat} {sz : Nat}
theorem iv_ty_eq {s : ivS} {F G : Rat → Nat → Rat} {x : Nat} (h : ∀ N, F N x = G N x) (H : iv_ty s F x) : iv_ty s G x := by
  have e : (fun N => F N x) = fun N => G N x := funext h
  unfold iv_ty at *
  rw [← e]
  exact H
theorem iv_ty_s {s t : ivS} {F : Rat → Nat → Rat} {x : Nat} (h1 : t.1 x = s.1 x) (h2 : t.2.1 x = s.2.1 x) (h3 : t.2.2.1 x = s.2.2.1 x) (H : iv_ty s F x) : iv_ty t F x := by
  unfold iv_ty at *
  rw [h1, h2, h3]
  exact H
theorem iv_step_ty (O : iv_O e o par sz) {n : Nat} (hn : n < sz) {s : ivS} {F : Rat → Nat → Rat} (H : ∀ i, i < n + 1 → iv_ty s F (o i)) : ∀ i, i < n → iv_ty (iv_s par (o n) s) (fun N => iv_h par N (F N) (o n)) (o i) := by
  intro i hi
  have Hi := H i (by omega)
  obtain ⟨r0, u0, c0, a0⟩ := H n (by omega)
  cases hp : par (o n) with
  | none =>
    have eF : ∀ N, F N (o i) = iv_h par N (F N) (o n) (o i) := fun N => by unfold iv_h; rw [hp]
    refine iv_ty_eq eF (iv_ty_s ?_ ?_ ?_ Hi) <;> (unfold iv_s iv_n; rw [hp]; split <;> (try split) <;> rfl)
  | some q =>
    by_cases z : o i = q
    · subst z
      have eF : ∀ N, F N (o i) - N * N * (F N (o n))⁻¹ = iv_h par N (F N) (o n) (o i) := fun N => by unfold iv_h; rw [hp]; exact (if_pos rfl).symm
      refine iv_ty_eq (F := fun N x => F N x - N * N * (F N (o n))⁻¹) eF ?_
      obtain ⟨ri, ui, ci, ai⟩ := Hi
      cases pn : s.2.2.1 (o n)
      · have an := a0 pn
        by_cases t0 : s.1 (o n) = 0
        · have an : mx_A (fun N => F N (o n)) 0 := by rw [(rt_div_0 r0).mpr t0] at an; exact an
          cases pi : s.2.2.1 (o i)
          · have es : iv_s par (o n) s = (s.1, s.2.1, (fun x => if x = o i then true else s.2.2.1 x), s.2.2.2.1, s.2.2.2.2.1, s.2.2.2.2.2) := by
              unfold iv_s; rw [if_neg (by rw [pn]; simp), if_pos t0, hp]; exact if_neg (by rw [pi]; simp)
            rw [es]
            refine ⟨ri, mx_U_0 ui an, fun _ => mx_A_0 (ai pi) an, fun y => ?_⟩
            have : (if o i = o i then true else s.2.2.1 (o i)) = false := y
            rw [if_pos rfl] at this; cases this
          · have es : iv_s par (o n) s = (s.1, s.2.1, s.2.2.1, s.2.2.2.1, s.2.2.2.2.1, s.2.2.2.2.2 + 1) := by
              unfold iv_s; rw [if_neg (by rw [pn]; simp), if_pos t0, hp]; exact if_pos pi
            rw [es]
            refine ⟨ri, mx_U_0 ui an, fun _ => mx_C_A (ci pi) an, fun y => ?_⟩
            have y : s.2.2.1 (o i) = false := y
            rw [pi] at y; cases y
        · have ny : (s.1 (o n) : Rat) / (s.2.1 (o n) : Rat) ≠ 0 := fun y => t0 ((rt_div_0 r0).mp y)
          have es : iv_s par (o n) s = (iv_T s.1 s.2.1 (o n) (o i), iv_R s.1 s.2.1 (o n) (o i), s.2.2.1, s.2.2.2.1 + (if 0 < s.1 (o n) * s.2.1 (o n) then 1 else 0), s.2.2.2.2.1 + (if 0 < s.1 (o n) * s.2.1 (o n) then 0 else 1), s.2.2.2.2.2) := by
            unfold iv_s iv_n; rw [if_neg (by rw [pn]; simp), if_neg t0, hp]
          rw [es]
          have eT : iv_T s.1 s.2.1 (o n) (o i) (o i) = s.1 (o i) * s.1 (o n) - s.2.1 (o i) * s.2.1 (o n) := if_pos rfl
          have eR : iv_R s.1 s.2.1 (o n) (o i) (o i) = s.2.1 (o i) * s.1 (o n) := if_pos rfl
          refine ⟨?_, mx_U_A ui an ny, fun y => mx_C_A (ci y) an, fun y => ?_⟩
          · show iv_R s.1 s.2.1 (o n) (o i) (o i) ≠ 0
            rw [eR]; exact Int.mul_ne_zero ri t0
          · have := mx_A_A (ai y) an ny
            show mx_A _ ((iv_T s.1 s.2.1 (o n) (o i) (o i) : Rat) / (iv_R s.1 s.2.1 (o n) (o i) (o i) : Rat))
            rw [eT, eR]
            have c2 : (s.2.1 (o i) : Rat) ≠ 0 := fun y => ri (by exact_mod_cast y)
            have c3 : (s.1 (o n) : Rat) ≠ 0 := fun y => t0 (by exact_mod_cast y)
            have c4 : (s.2.1 (o n) : Rat) ≠ 0 := fun y => r0 (by exact_mod_cast y)
            have e1 := mx_fold c2 c3 c4 (t := (s.1 (o i) : Rat)) 1
            rw [Rat.intCast_sub, Rat.intCast_mul, Rat.intCast_mul, Rat.intCast_mul]
            have e2 : (s.1 (o i) : Rat) / (s.2.1 (o i) : Rat) - ((s.1 (o n) : Rat) / (s.2.1 (o n) : Rat))⁻¹ = ((s.1 (o i) : Rat) * (s.1 (o n) : Rat) - (s.2.1 (o i) : Rat) * (s.2.1 (o n) : Rat)) / ((s.2.1 (o i) : Rat) * (s.1 (o n) : Rat)) := by
              rw [← show (s.1 (o i) : Rat) / (s.2.1 (o i) : Rat) - 1 * ((s.1 (o n) : Rat) / (s.2.1 (o n) : Rat))⁻¹ = (s.1 (o i) : Rat) / (s.2.1 (o i) : Rat) - ((s.1 (o n) : Rat) / (s.2.1 (o n) : Rat))⁻¹ by rw [Rat.one_mul], ← e1, Rat.one_mul]
            rw [← e2]
            exact this
      · have cn := c0 pn
        have es : iv_s par (o n) s = (s.1, s.2.1, s.2.2.1, s.2.2.2.1 + 1, s.2.2.2.2.1 + 1, s.2.2.2.2.2) := by unfold iv_s; rw [if_pos pn]
        rw [es]
        exact ⟨ri, mx_U_C ui cn, fun y => mx_C_C (ci y) cn, fun y => mx_A_C (ai y) cn⟩
    · have eF : ∀ N, F N (o i) = iv_h par N (F N) (o n) (o i) := fun N => by unfold iv_h; rw [hp]; exact (if_neg z).symm
      refine iv_ty_eq eF (iv_ty_s ?_ ?_ ?_ Hi)
      · unfold iv_s iv_n; rw [hp]
        split
        · rfl
        · split
          · dsimp only; split <;> rfl
          · show iv_T s.1 s.2.1 (o n) q (o i) = _
            exact if_neg z
      · unfold iv_s iv_n; rw [hp]
        split
        · rfl
        · split
          · dsimp only; split <;> rfl
          · show iv_R s.1 s.2.1 (o n) q (o i) = _
            exact if_neg z
      · unfold iv_s iv_n; rw [hp]
        split
        · rfl
        · split
          · dsimp only
            split
            · rfl
            · show (if o i = q then true else s.2.2.1 (o i)) = _
              exact if_neg z
          · rfl
theorem js_bump {g h : Nat → Int} {j : Nat} : ∀ {n : Nat}, j < n → h j = g j + 1 → (∀ k, k < n → k ≠ j → h k = g k) → js h n = js g n + 1
  | 0, hj, _, _ => by omega
  | n + 1, hj, h1, h2 => by
    show js h n + h n = js g n + g n + 1
    by_cases z : j = n
    · subst z
      rw [js_congr (g := h) (h := g) (fun k hk => h2 k (by omega) (by omega)), h1]; omega
    · rw [js_bump (n := n) (by omega) h1 (fun k hk => h2 k (by omega)), h2 n (by omega) (by omega)]; omega
/-- how many places that are left are paired -/
def iv_pd (o : Nat → Nat) (s : ivS) (n : Nat) : Int := js (fun i => if s.2.2.1 (o i) = true then 1 else 0) n
theorem iv_step_cnt (O : iv_O e o par sz) {n : Nat} (hn : n < sz) (s : ivS) :
    ((iv_s par (o n) s).2.2.2.1 : Int) = s.2.2.2.1 + (if iv_pos s (o n) = true then 1 else 0) ∧
    (iv_dg s (o n) : Int) + (iv_s par (o n) s).2.2.2.2.2 + iv_pd o (iv_s par (o n) s) n = 1 + s.2.2.2.2.2 + iv_pd o s (n + 1) ∧
    ((iv_s par (o n) s).2.2.2.1 : Int) + (iv_s par (o n) s).2.2.2.2.1 + (iv_s par (o n) s).2.2.2.2.2 + iv_pd o (iv_s par (o n) s) n = 1 + s.2.2.2.1 + s.2.2.2.2.1 + s.2.2.2.2.2 + iv_pd o s (n + 1) := by
  have ep : iv_pd o s (n + 1) = iv_pd o s n + (if s.2.2.1 (o n) = true then 1 else 0) := rfl
  unfold iv_pos iv_dg
  cases pn : s.2.2.1 (o n)
  · rw [ep, pn]
    by_cases t0 : s.1 (o n) = 0
    · have nz : decide (0 < s.1 (o n) * s.2.1 (o n)) = false := by rw [t0, Int.zero_mul]; rfl
      rw [nz]
      cases hp : par (o n) with
      | none =>
        have es : iv_s par (o n) s = (s.1, s.2.1, s.2.2.1, s.2.2.2.1, s.2.2.2.2.1, s.2.2.2.2.2 + 1) := by
          unfold iv_s; rw [if_neg (by rw [pn]; simp), if_pos t0, hp]
        have e2 : iv_pd o (iv_s par (o n) s) n = iv_pd o s n := by rw [es]; rfl
        rw [e2, es]
        simp [t0]
        omega
      | some q =>
        obtain ⟨j, j1, rfl, -⟩ := O.2.2.1 n hn q hp
        cases pi : s.2.2.1 (o j)
        · have es : iv_s par (o n) s = (s.1, s.2.1, (fun x => if x = o j then true else s.2.2.1 x), s.2.2.2.1, s.2.2.2.2.1, s.2.2.2.2.2) := by
            unfold iv_s; rw [if_neg (by rw [pn]; simp), if_pos t0, hp]; exact if_neg (by rw [pi]; simp)
          have e2 : iv_pd o (iv_s par (o n) s) n = iv_pd o s n + 1 := by
            rw [es]
            unfold iv_pd
            refine js_bump j1 ?_ (fun k hk hne => ?_)
            · show (if (if o j = o j then true else s.2.2.1 (o j)) = true then (1 : Int) else 0) = (if s.2.2.1 (o j) = true then 1 else 0) + 1
              rw [if_pos rfl, pi]; rfl
            · show (if (if o k = o j then true else s.2.2.1 (o k)) = true then (1 : Int) else 0) = _
              rw [if_neg (fun z => hne (O.2.1 k j (by omega) (by omega) z))]
          rw [e2, es]
          simp [t0]
          omega
        · have es : iv_s par (o n) s = (s.1, s.2.1, s.2.2.1, s.2.2.2.1, s.2.2.2.2.1, s.2.2.2.2.2 + 1) := by
            unfold iv_s; rw [if_neg (by rw [pn]; simp), if_pos t0, hp]; exact if_pos pi
          have e2 : iv_pd o (iv_s par (o n) s) n = iv_pd o s n := by rw [es]; rfl
          rw [e2, es]
          simp [t0]
          omega
    · have es : iv_s par (o n) s = ((iv_n par (s.1, s.2.1) (o n)).1, (iv_n par (s.1, s.2.1) (o n)).2, s.2.2.1, s.2.2.2.1 + (if 0 < s.1 (o n) * s.2.1 (o n) then 1 else 0), s.2.2.2.2.1 + (if 0 < s.1 (o n) * s.2.1 (o n) then 0 else 1), s.2.2.2.2.2) := by
        unfold iv_s; rw [if_neg (by rw [pn]; simp), if_neg t0]
      have e2 : iv_pd o (iv_s par (o n) s) n = iv_pd o s n := by rw [es]; rfl
      rw [e2, es]
      by_cases w : 0 < s.1 (o n) * s.2.1 (o n) <;> simp [t0, w] <;> omega
  · have es : iv_s par (o n) s = (s.1, s.2.1, s.2.2.1, s.2.2.2.1 + 1, s.2.2.2.2.1 + 1, s.2.2.2.2.2) := by unfold iv_s; rw [if_pos pn]
    have e2 : iv_pd o (iv_s par (o n) s) n = iv_pd o s n := by rw [es]; rfl
    rw [e2, ep, es, pn]
    simp
    omega
/-- every place's kind, and the counts -/
theorem iv_run (O : iv_O e o par sz) : ∀ (n : Nat) (s : ivS) (F : Rat → Nat → Rat), n ≤ sz → (∀ i, i < n → iv_ty s F (o i)) → ∃ (pos : Nat → Bool) (dg : Nat → Nat), (∀ i, i < n → mx_B (fun N => iv_g o par (N : Rat) n (F (N : Rat)) (o i)) (dg i) ∧ mx_sg (fun N => iv_g o par N n (F N) (o i)) (pos i)) ∧ ((iv_r o par n s).2.2.2.1 : Int) = s.2.2.2.1 + js (fun i => if pos i = true then 1 else 0) n ∧ js (fun i => (dg i : Int)) n + (iv_r o par n s).2.2.2.2.2 = n + s.2.2.2.2.2 + iv_pd o s n ∧ ((iv_r o par n s).2.2.2.1 : Int) + (iv_r o par n s).2.2.2.2.1 + (iv_r o par n s).2.2.2.2.2 = n + s.2.2.2.1 + s.2.2.2.2.1 + s.2.2.2.2.2 + iv_pd o s n
  | 0, s, F, _, _ => ⟨fun _ => false, fun _ => 0, fun i hi => by omega, by show (s.2.2.2.1 : Int) = s.2.2.2.1 + 0; omega, by show (0 : Int) + s.2.2.2.2.2 = (0 : Nat) + s.2.2.2.2.2 + 0; omega, by show (s.2.2.2.1 : Int) + s.2.2.2.2.1 + s.2.2.2.2.2 = (0 : Nat) + s.2.2.2.1 + s.2.2.2.2.1 + s.2.2.2.2.2 + 0; omega⟩
  | n + 1, s, F, hn, H => by
    obtain ⟨pos, dg, h1, h2, h3, h4⟩ := iv_run O n (iv_s par (o n) s) (fun N => iv_h par N (F N) (o n)) (by omega) (iv_step_ty O (by omega) H)
    obtain ⟨c1, c2, c3⟩ := iv_step_cnt O (n := n) (by omega) s
    obtain ⟨b1, b2⟩ := iv_ty_end (H n (by omega))
    refine ⟨fun i => if i = n then iv_pos s (o n) else pos i, fun i => if i = n then iv_dg s (o n) else dg i, fun i hi => ?_, ?_, ?_, ?_⟩
    · dsimp only
      by_cases z : i = n
      · subst z
        rw [if_pos rfl, if_pos rfl]
        have e1 : ∀ N : Rat, iv_g o par N (i + 1) (F N) (o i) = F N (o i) := fun N => by
          show iv_g o par N i (iv_h par N (F N) (o i)) (o i) = _
          rw [iv_g_keep O N i _ (Nat.le_refl i) (by omega), iv_h_ne O N (Nat.le_refl i) (by omega)]
        have e2 : (fun N : Int => iv_g o par (N : Rat) (i + 1) (F (N : Rat)) (o i)) = fun N : Int => F (N : Rat) (o i) := funext fun N => e1 N
        have e3 : (fun N : Rat => iv_g o par N (i + 1) (F N) (o i)) = fun N => F N (o i) := funext fun N => e1 N
        rw [e2, e3]
        exact ⟨b1, b2⟩
      · rw [if_neg z, if_neg z]
        exact h1 i (by omega)
    · show ((iv_r o par n (iv_s par (o n) s)).2.2.2.1 : Int) = s.2.2.2.1 + (js (fun i => if (if i = n then iv_pos s (o n) else pos i) = true then 1 else 0) n + (if (if n = n then iv_pos s (o n) else pos n) = true then 1 else 0))
      have e1 : js (fun i => if (if i = n then iv_pos s (o n) else pos i) = true then (1 : Int) else 0) n = js (fun i => if pos i = true then (1 : Int) else 0) n := js_congr (fun k hk => by rw [if_neg (by omega : ¬ k = n)])
      rw [h2, c1, if_pos rfl, e1]
      omega
    · show (js (fun i => ((if i = n then iv_dg s (o n) else dg i : Nat) : Int)) n + ((if n = n then iv_dg s (o n) else dg n : Nat) : Int)) + (iv_r o par n (iv_s par (o n) s)).2.2.2.2.2 = (n + 1 : Nat) + s.2.2.2.2.2 + iv_pd o s (n + 1)
      have e1 : js (fun i => ((if i = n then iv_dg s (o n) else dg i : Nat) : Int)) n = js (fun i => (dg i : Int)) n := js_congr (fun k hk => by rw [if_neg (by omega : ¬ k = n)])
      rw [if_pos rfl, e1]
      omega
    · show ((iv_r o par n (iv_s par (o n) s)).2.2.2.1 : Int) + (iv_r o par n (iv_s par (o n) s)).2.2.2.2.1 + (iv_r o par n (iv_s par (o n) s)).2.2.2.2.2 = (n + 1 : Nat) + s.2.2.2.1 + s.2.2.2.2.1 + s.2.2.2.2.2 + iv_pd o s (n + 1)
      omega
end
