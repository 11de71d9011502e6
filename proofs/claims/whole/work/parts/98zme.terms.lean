/-! INERTIA: the reference's terms are the sums of the minors of a size -/
/-- a sum over all parts of a list -/
def su : List Nat → (List Nat → Int) → Int
  | [], G => G []
  | a :: l, G => su l G + su l (fun S => G (a :: S))
theorem su_congr : ∀ {l : List Nat} {G H : List Nat → Int}, (∀ S : List Nat, (∀ x, x ∈ S → x ∈ l) → G S = H S) → su l G = su l H
  | [], G, H, h => h [] (fun x hx => hx)
  | a :: l, G, H, h => by
    show su l G + su l (fun S => G (a :: S)) = su l H + su l (fun S => H (a :: S))
    rw [su_congr (l := l) (G := G) (H := H) (fun S hS => h S (fun x hx => List.mem_cons_of_mem a (hS x hx))), su_congr (l := l) (G := fun S => G (a :: S)) (H := fun S => H (a :: S)) (fun S hS => h (a :: S) (fun x hx => by
      rcases List.mem_cons.mp hx with z | z
      · rw [z]; exact List.mem_cons_self
      · exact List.mem_cons_of_mem a (hS x z)))]
theorem su_add : ∀ (l : List Nat) (G H : List Nat → Int), su l (fun S => G S + H S) = su l G + su l H
  | [], _, _ => rfl
  | a :: l, G, H => by
    show su l (fun S => G S + H S) + su l (fun S => G (a :: S) + H (a :: S)) = su l G + su l (fun S => G (a :: S)) + (su l H + su l (fun S => H (a :: S)))
    rw [su_add l G H, su_add l (fun S => G (a :: S)) (fun S => H (a :: S))]
    omega
theorem su_sub : ∀ (l : List Nat) (G H : List Nat → Int), su l (fun S => G S - H S) = su l G - su l H
  | [], _, _ => rfl
  | a :: l, G, H => by
    show su l (fun S => G S - H S) + su l (fun S => G (a :: S) - H (a :: S)) = su l G + su l (fun S => G (a :: S)) - (su l H + su l (fun S => H (a :: S)))
    rw [su_sub l G H, su_sub l (fun S => G (a :: S)) (fun S => H (a :: S))]
    omega
theorem su_mul (c : Int) : ∀ (l : List Nat) (G : List Nat → Int), su l (fun S => c * G S) = c * su l G
  | [], _ => rfl
  | a :: l, G => by
    show su l (fun S => c * G S) + su l (fun S => c * G (a :: S)) = c * (su l G + su l (fun S => G (a :: S)))
    rw [su_mul c l G, su_mul c l (fun S => G (a :: S)), Int.mul_add]
theorem su_0 : ∀ l : List Nat, su l (fun _ => 0) = 0
  | [] => rfl
  | a :: l => by
    show su l (fun _ => 0) + su l (fun _ => 0) = 0
    rw [su_0 l]; rfl
/-- one taken out of each part -/
theorem su_swap : ∀ {l : List Nat} (H : Nat → List Nat → Int), l.Nodup → su l (fun S => mx_s (fun q => H q (S.erase q)) S) = mx_s (fun q => su (l.erase q) (H q)) l
  | [], H, _ => rfl
  | a :: l, H, hn => by
    have hn := List.nodup_cons.mp hn
    show su l (fun S => mx_s (fun q => H q (S.erase q)) S) + su l (fun S => H a ((a :: S).erase a) + mx_s (fun q => H q ((a :: S).erase q)) S) = su ((a :: l).erase a) (H a) + mx_s (fun q => su ((a :: l).erase q) (H q)) l
    rw [su_congr (l := l) (G := fun S => H a ((a :: S).erase a) + mx_s (fun q => H q ((a :: S).erase q)) S) (H := fun S => H a S + mx_s (fun q => (fun q S => H q (a :: S)) q (S.erase q)) S) (fun S hS => by
      try dsimp only
      rw [List.erase_cons_head]
      congr 1
      refine mx_s_congr (fun q hq => ?_)
      rw [List.erase_cons_tail (by simpa using fun z : a = q => hn.1 (z ▸ hS q hq))])]
    rw [su_add, su_swap H hn.2, su_swap (fun q S => H q (a :: S)) hn.2, List.erase_cons_head]
    rw [mx_s_congr (f := fun q => su ((a :: l).erase q) (H q)) (g := fun q => su (l.erase q) (H q) + su (l.erase q) (fun S => H q (a :: S))) (fun q hq => by
      rw [List.erase_cons_tail (by simpa using fun z : a = q => hn.1 (z ▸ hq))]; rfl)]
    rw [mx_s_add]
    omega
/-- the sums of the minors of a size -/
theorem su_e (w : Nat → Int) (e : Nat → Nat → Int) : ∀ (n : Nat) (l : List Nat), l.length ≤ n → l.Nodup → ∀ k, su l (fun S => if S.length = k then mx_p w e S else 0) = mx_e w e l k
  | _, [], _, _, k => by
    show (if ([] : List Nat).length = k then mx_p w e [] else 0) = if k = 0 then 1 else 0
    by_cases z : k = 0
    · subst z; rfl
    · rw [if_neg z, if_neg (fun y => z y.symm)]
  | 0, a :: l, h, _, _ => absurd h (by simp)
  | n + 1, p :: l, h, hn, k => by
    have h : l.length ≤ n := Nat.le_of_succ_le_succ h
    have hn := List.nodup_cons.mp hn
    show su l (fun S => if S.length = k then mx_p w e S else 0) + su l (fun S => if S.length + 1 = k then mx_p w e (p :: S) else 0) = _
    rw [su_e w e n l h hn.2 k, mx_e_cons]
    cases k with
    | zero =>
      rw [su_congr (G := fun S => if S.length + 1 = 0 then mx_p w e (p :: S) else 0) (H := fun _ => 0) (fun S _ => if_neg (by omega)), su_0]
      rw [mx_s_congr (f := fun q => e p q * mx_h (mx_h (mx_e w e (l.erase q))) 0) (g := fun _ => 0) (fun q _ => Int.mul_zero _), mx_s_zero]
      show _ = _ + w p * 0 - 0
      omega
    | succ k =>
      have e1 : su l (fun S => if S.length + 1 = k + 1 then mx_p w e (p :: S) else 0) = su l (fun S => w p * (if S.length = k then mx_p w e S else 0) - mx_s (fun q => (fun q T => e p q * (if T.length + 1 = k then mx_p w e T else 0)) q (S.erase q)) S) := by
        refine su_congr (fun S _ => ?_)
        by_cases z : S.length = k
        · rw [if_pos (by omega), if_pos z, mx_p_cons]
          congr 1
          refine mx_s_congr (fun q hq => ?_)
          try dsimp only
          rw [if_pos (by rw [List.length_erase_of_mem hq]; have := List.length_pos_of_mem hq; omega)]
        · rw [if_neg (by omega), if_neg z, mx_s_congr (g := fun _ => 0) (fun q hq => by
            try dsimp only
            rw [if_neg (by rw [List.length_erase_of_mem hq]; have := List.length_pos_of_mem hq; omega), Int.mul_zero]), mx_s_zero]
          omega
      rw [e1, su_sub, su_mul, su_e w e n l h hn.2 k, su_swap (fun q T => e p q * (if T.length + 1 = k then mx_p w e T else 0)) hn.2]
      show _ + (w p * mx_e w e l k - _) = _ + w p * mx_e w e l k - _
      rw [mx_s_congr (g := fun q => e p q * mx_h (mx_h (mx_e w e (l.erase q))) (k + 1)) (fun q hq => by
        try dsimp only
        rw [su_mul]
        congr 1
        show _ = mx_h (mx_e w e (l.erase q)) k
        cases k with
        | zero => 
          rw [su_congr (H := fun _ => 0) (fun S _ => if_neg (by omega)), su_0]; rfl
        | succ k =>
          have ih := su_e w e n (l.erase q) (Nat.le_trans List.length_erase_le h) (hn.2.erase q) k
          rw [su_congr (H := fun S => if S.length = k then mx_p w e S else 0) (fun S _ => by
            by_cases y : S.length = k
            · rw [if_pos y, if_pos (by omega)]
            · rw [if_neg y, if_neg (by omega)])]
          exact ih)]
      omega
theorem su_snoc (a : Nat) : ∀ (l : List Nat) (G : List Nat → Int), su (l ++ [a]) G = su l G + su l (fun S => G (S ++ [a]))
  | [], G => rfl
  | b :: l, G => by
    show su (l ++ [a]) G + su (l ++ [a]) (fun S => G (b :: S)) = su l G + su l (fun S => G (b :: S)) + (su l (fun S => G (S ++ [a])) + su l (fun S => G (b :: S ++ [a])))
    rw [su_snoc a l G, su_snoc a l (fun S => G (b :: S))]
    show _ = su l G + su l (fun S => G (b :: S)) + (su l (fun S => G (S ++ [a])) + su l (fun S => G (b :: (S ++ [a]))))
    omega
theorem js_split (g : Nat → Int) (a : Nat) : ∀ b, js g (a + b) = js g a + js (fun n => g (a + n)) b
  | 0 => by show js g a = js g a + 0; omega
  | b + 1 => by
    show js g (a + b) + g (a + b) = js g a + (js (fun n => g (a + n)) b + g (a + b))
    rw [js_split g a b]; omega
/-- numbers as sets within a set -/
abbrev sbn (V n m : Nat) : Prop := ∀ k, k < m → n.testBit k = true → V.testBit k = true
theorem sbn_lt {V n m : Nat} (h : n < 2 ^ m) : sbn V n (m + 1) ↔ sbn V n m := by
  constructor
  · intro q k hk; exact q k (by omega)
  · intro q k hk hb
    by_cases z : k = m
    · subst z
      rw [Nat.testBit_lt_two_pow h] at hb; cases hb
    · exact q k (by omega) hb
theorem sbn_ge {V n m : Nat} (h : n < 2 ^ m) : sbn V (2 ^ m + n) (m + 1) ↔ V.testBit m = true ∧ sbn V n m := by
  have hm : (2 ^ m + n).testBit m = true := by rw [Nat.testBit_two_pow_add_eq, Nat.testBit_lt_two_pow h]; rfl
  constructor
  · intro q
    refine ⟨q m (by omega) hm, fun k hk hb => q k (by omega) ?_⟩
    rw [Nat.testBit_two_pow_add_gt hk]; exact hb
  · rintro ⟨q1, q2⟩ k hk hb
    by_cases z : k = m
    · subst z; exact q1
    · rw [Nat.testBit_two_pow_add_gt (by omega)] at hb
      exact q2 k (by omega) hb

theorem su_num (V : Nat) : ∀ (m : Nat) (G : List Nat → Int), js (fun n => if sbn V n m then G ((List.range m).filter n.testBit) else 0) (2 ^ m) = su ((List.range m).filter V.testBit) G
  | 0, G => by
    show 0 + (if sbn V 0 0 then G [] else 0) = G []
    rw [if_pos (fun k hk => by omega)]; omega
  | m + 1, G => by
    rw [show 2 ^ (m + 1) = 2 ^ m + 2 ^ m by rw [Nat.pow_succ]; omega, js_split]
    rw [js_congr (h := fun n => if sbn V n m then G ((List.range m).filter n.testBit) else 0) (fun n hn => by
      try dsimp only
      have e : (List.range (m + 1)).filter n.testBit = (List.range m).filter n.testBit := by
        rw [List.range_succ, List.filter_append, List.filter_cons_of_neg (by rw [Nat.testBit_lt_two_pow hn]; simp)]; simp
      rw [e]
      by_cases z : sbn V n m
      · rw [if_pos z, if_pos ((sbn_lt hn).mpr z)]
      · rw [if_neg z, if_neg (fun y => z ((sbn_lt hn).mp y))])]
    rw [su_num V m G]
    by_cases v : V.testBit m = true
    · rw [js_congr (n := 2 ^ m) (h := fun n => if sbn V n m then (fun S => G (S ++ [m])) ((List.range m).filter n.testBit) else 0) (fun n hn => by
        try dsimp only
        have e : (List.range (m + 1)).filter (2 ^ m + n).testBit = (List.range m).filter n.testBit ++ [m] := by
          rw [List.range_succ, List.filter_append, List.filter_cons_of_pos (by rw [Nat.testBit_two_pow_add_eq, Nat.testBit_lt_two_pow hn]; rfl)]
          congr 1
          apply List.filter_congr
          intro x hx
          rw [Nat.testBit_two_pow_add_gt (List.mem_range.mp hx)]
        rw [e]
        by_cases z : sbn V n m
        · rw [if_pos z, if_pos ((sbn_ge hn).mpr ⟨v, z⟩)]
        · rw [if_neg z, if_neg (fun y => z ((sbn_ge hn).mp y).2)])]
      rw [su_num V m (fun S => G (S ++ [m])), List.range_succ, List.filter_append, List.filter_cons_of_pos v, List.filter_nil, su_snoc]
    · rw [js_congr (n := 2 ^ m) (h := fun _ => 0) (fun n hn => by
        try dsimp only
        exact if_neg (fun y => v ((sbn_ge hn).mp y).1))]
      rw [List.range_succ, List.filter_append, List.filter_cons_of_neg v, List.filter_nil, List.append_nil]
      have : ∀ k, js (fun _ => 0) k = 0 := fun k => by
        induction k with
        | zero => rfl
        | succ k ih => show js _ k + 0 = 0; rw [ih]; rfl
      rw [this]; omega
theorem mx_g_congr {w w' : Nat → Int} {e e' : Nat → Nat → Int} : ∀ (n : Nat) (l : List Nat), (∀ a ∈ l, w a = w' a) → (∀ a ∈ l, ∀ b ∈ l, e a b = e' a b) → ∀ k, mx_g w e n l k = mx_g w' e' n l k
  | 0, l, _, _, _ => rfl
  | n + 1, [], _, _, _ => rfl
  | n + 1, p :: l, hw, he, k => by
    have i1 := mx_g_congr n l (fun a ha => hw a (List.mem_cons_of_mem p ha)) (fun a ha b hb => he a (List.mem_cons_of_mem p ha) b (List.mem_cons_of_mem p hb))
    show mx_g w e n l k + w p * mx_h (mx_g w e n l) k - mx_s (fun q => e p q * mx_h (mx_h (mx_g w e n (l.erase q))) k) l = mx_g w' e' n l k + w' p * mx_h (mx_g w' e' n l) k - mx_s (fun q => e' p q * mx_h (mx_h (mx_g w' e' n (l.erase q))) k) l
    rw [i1 k, mx_h_congr i1 k, hw p List.mem_cons_self]
    congr 1
    refine mx_s_congr (fun q hq => ?_)
    rw [he p List.mem_cons_self q (List.mem_cons_of_mem p hq), mx_h_congr (mx_h_congr (mx_g_congr n (l.erase q) (fun a ha => hw a (List.mem_cons_of_mem p (List.mem_of_mem_erase ha))) (fun a ha b hb => he a (List.mem_cons_of_mem p (List.mem_of_mem_erase ha)) b (List.mem_cons_of_mem p (List.mem_of_mem_erase hb)))))]
theorem mx_e_congr {w w' : Nat → Int} {e e' : Nat → Nat → Int} {l : List Nat} (hw : ∀ a ∈ l, w a = w' a) (he : ∀ a ∈ l, ∀ b ∈ l, e a b = e' a b) (k : Nat) : mx_e w e l k = mx_e w' e' l k := mx_g_congr _ l hw he k
/-- the sums of a forest -/
def iE (f : jF) (k : Nat) : Int := mx_e (ew f) (ee f) (sl f.2.2) k

theorem iE_num (f : jF) (hS : S12 f.2.2) (k : Nat) : js (fun n => if Int32.ofNat n &&& (f.2.2 ^^^ (-1)) = 0 then (if bc (Int32.ofNat n) = k then MP f (Int32.ofNat n) else 0) else 0) 4096 = iE f k := by
  obtain ⟨v, v1, v2⟩ := S12_nat hS
  unfold iE
  rw [← su_e (ew f) (ee f) _ (sl f.2.2) (Nat.le_refl _) (sl_nodup _) k]
  have e1 : ∀ n, n < 4096 → sl (Int32.ofNat n) = (List.range 12).filter n.testBit := fun n hn => by
    unfold sl
    apply List.filter_congr
    intro x _
    exact bt_ofNat hn x
  have e2 := su_num v 12 (fun S => if S.length = k then mx_p (ew f) (ee f) S else 0)
  rw [v2, e1 v v1, ← e2]
  refine js_congr (fun n hn => ?_)
  have hn : n < 4096 := hn
  have iff : (Int32.ofNat n &&& (Int32.ofNat v ^^^ (-1)) = 0) ↔ sbn v n 12 := by
    rw [sub_iff]
    constructor
    · intro q j hj hb
      have := q j (by rw [bt_ofNat hn]; exact hb)
      rw [bt_ofNat v1] at this; exact this
    · intro q j hb
      rw [bt_ofNat hn] at hb
      rw [bt_ofNat v1]
      by_cases z : j < 12
      · exact q j z hb
      · rw [Nat.testBit_lt_two_pow (Nat.lt_of_lt_of_le hn (Nat.le_trans (by decide : (4096 : Nat) ≤ 2 ^ 12) (Nat.pow_le_pow_right (by decide) (by omega))))] at hb
        cases hb
  try dsimp only
  by_cases z : sbn v n 12
  · rw [if_pos z, if_pos (iff.mpr z), ← e1 n hn]
    rw [sl_length]; rfl
  · rw [if_neg z, if_neg (fun y => z (iff.mp y))]
