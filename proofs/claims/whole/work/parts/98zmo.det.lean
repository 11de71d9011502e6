/-! LINK: a determinant row by row; signs by place from the end -/
def al : List Nat → (Nat → Int) → Int
  | [], _ => 0
  | c :: C, F => (-1) ^ C.length * F c + al C F
theorem al_congr {F G : Nat → Int} : ∀ {C : List Nat}, (∀ q, q ∈ C → F q = G q) → al C F = al C G
  | [], _ => rfl
  | c :: C, h => by
    show (-1) ^ C.length * F c + al C F = (-1) ^ C.length * G c + al C G
    rw [h c List.mem_cons_self, al_congr (fun q hq => h q (List.mem_cons_of_mem c hq))]
theorem al_add (F G : Nat → Int) : ∀ C : List Nat, al C (fun q => F q + G q) = al C F + al C G
  | [] => rfl
  | c :: C => by
    show (-1) ^ C.length * (F c + G c) + al C (fun q => F q + G q) = (-1) ^ C.length * F c + al C F + ((-1) ^ C.length * G c + al C G)
    rw [al_add F G C, Int.mul_add]; omega
theorem al_mul (k : Int) (F : Nat → Int) : ∀ C : List Nat, al C (fun q => k * F q) = k * al C F
  | [] => (Int.mul_zero k).symm
  | c :: C => by
    show (-1) ^ C.length * (k * F c) + al C (fun q => k * F q) = k * ((-1) ^ C.length * F c + al C F)
    rw [al_mul k F C, Int.mul_add, Int.mul_left_comm]
theorem al_0 : ∀ C : List Nat, al C (fun _ => 0) = 0
  | [] => rfl
  | c :: C => by
    show (-1) ^ C.length * 0 + al C (fun _ => 0) = 0
    rw [al_0 C, Int.mul_zero]; rfl
theorem al_two : ∀ {C : List Nat} (G : Nat → Nat → Int), C.Nodup → al C (fun q => al (C.erase q) (fun t => G q t)) + al C (fun q => al (C.erase q) (fun t => G t q)) = 0
  | [], _, _ => rfl
  | c :: C, G, hn => by
    have hn := List.nodup_cons.mp hn
    have part : ∀ H : Nat → Nat → Int, al (c :: C) (fun q => al ((c :: C).erase q) (fun t => H q t)) = (-1) ^ C.length * al C (fun t => H c t) + ((-1) ^ (C.length - 1) * al C (fun q => H q c) + al C (fun q => al (C.erase q) (fun t => H q t))) := fun H => by
      show (-1) ^ C.length * al ((c :: C).erase c) (fun t => H c t) + al C (fun q => al ((c :: C).erase q) (fun t => H q t)) = _
      have e1 : al C (fun q => al ((c :: C).erase q) (fun t => H q t)) = al C (fun q => (-1) ^ (C.length - 1) * H q c + al (C.erase q) (fun t => H q t)) := by
        refine al_congr (fun q hq => ?_)
        rw [List.erase_cons_tail (by simpa using fun z : c = q => hn.1 (z ▸ hq))]
        show (-1) ^ (C.erase q).length * H q c + _ = _
        rw [List.length_erase_of_mem hq]
      rw [List.erase_cons_head, e1, al_add, al_mul]
    rw [part G, part (fun q t => G t q)]
    have ih := al_two G hn.2
    cases C with
    | nil => rfl
    | cons y C =>
      show (-1) ^ (C.length + 1) * _ + ((-1) ^ C.length * _ + _) + ((-1) ^ (C.length + 1) * _ + ((-1) ^ C.length * _ + _)) = 0
      rw [Int.pow_succ]
      generalize al (y :: C) (fun t => G c t) = u at *
      generalize al (y :: C) (fun q => G q c) = v at *
      generalize al (y :: C) (fun q => al ((y :: C).erase q) (fun t => G q t)) = x at *
      generalize al (y :: C) (fun q => al ((y :: C).erase q) (fun t => G t q)) = z at *
      generalize (-1 : Int) ^ C.length = s
      have e1 : s * -1 * u = -(s * u) := by rw [Int.mul_neg, Int.mul_one, Int.neg_mul]
      have e2 : s * -1 * v = -(s * v) := by rw [Int.mul_neg, Int.mul_one, Int.neg_mul]
      rw [e1, e2]
      omega
section
variable (A : Nat → Nat → Int)
/-- rows the last first -/
def dt : List Nat → List Nat → Int
  | [], _ => 1
  | r :: rs, C => al C (fun q => A r q * dt rs (C.erase q))
theorem dt_congr {B : Nat → Nat → Int} : ∀ {R C : List Nat}, (∀ r, r ∈ R → ∀ q, q ∈ C → A r q = B r q) → dt A R C = dt B R C
  | [], _, _ => rfl
  | r :: R, C, h => al_congr (fun q hq => by rw [h r List.mem_cons_self q hq, dt_congr (fun a ha b hb => h a (List.mem_cons_of_mem r ha) b (List.mem_of_mem_erase hb))])
theorem dt_two (a b : Nat) (rs : List Nat) {C : List Nat} (hn : C.Nodup) : dt A (a :: b :: rs) C + dt A (b :: a :: rs) C = 0 := by
  have := al_two (fun q t => A a q * (A b t * dt A rs ((C.erase q).erase t))) hn
  have e1 : dt A (a :: b :: rs) C = al C (fun q => al (C.erase q) (fun t => A a q * (A b t * dt A rs ((C.erase q).erase t)))) := al_congr (fun q _ => (al_mul _ _ _).symm)
  have e2 : dt A (b :: a :: rs) C = al C (fun q => al (C.erase q) (fun t => A a t * (A b q * dt A rs ((C.erase t).erase q)))) := by
    show al C (fun q => A b q * al (C.erase q) (fun t => A a t * dt A rs ((C.erase q).erase t))) = _
    refine al_congr (fun q _ => ?_)
    rw [← al_mul]
    refine al_congr (fun t _ => ?_)
    rw [List.erase_comm, Int.mul_left_comm]
  rw [e1, e2]
  exact this
theorem dt_pre {X Y : List Nat} (h : ∀ C : List Nat, C.Nodup → dt A X C + dt A Y C = 0) : ∀ (pre : List Nat) {C : List Nat}, C.Nodup → dt A (pre ++ X) C + dt A (pre ++ Y) C = 0
  | [], C, hn => h C hn
  | r :: pre, C, hn => by
    show al C (fun q => A r q * dt A (pre ++ X) (C.erase q)) + al C (fun q => A r q * dt A (pre ++ Y) (C.erase q)) = 0
    rw [← al_add, al_congr (G := fun _ => 0) (fun q _ => by
      rw [← Int.mul_add, dt_pre h pre (hn.erase q), Int.mul_zero]), al_0]
theorem dt_mv (x : Nat) (tl : List Nat) {C : List Nat} (hn : C.Nodup) : ∀ (l pre : List Nat), dt A (pre ++ x :: (l ++ tl)) C = (-1) ^ l.length * dt A (pre ++ (l ++ x :: tl)) C
  | [], pre => by
    show dt A (pre ++ x :: tl) C = (-1) ^ 0 * dt A (pre ++ x :: tl) C
    rw [Int.pow_zero, Int.one_mul]
  | y :: l, pre => by
    have h1 := dt_pre A (fun C hn => dt_two A x y (l ++ tl) hn) pre hn
    have h2 := dt_mv x tl hn l (pre ++ [y])
    rw [List.append_assoc, List.append_assoc] at h2
    show dt A (pre ++ x :: y :: (l ++ tl)) C = (-1) ^ (l.length + 1) * dt A (pre ++ y :: (l ++ x :: tl)) C
    have h2 : dt A (pre ++ y :: x :: (l ++ tl)) C = (-1) ^ l.length * dt A (pre ++ y :: (l ++ x :: tl)) C := h2
    rw [Int.pow_succ, Int.mul_neg, Int.mul_one, Int.neg_mul, ← h2]
    omega
theorem dt_eq (x : Nat) (l tl : List Nat) {C : List Nat} (hn : C.Nodup) : dt A (x :: (l ++ x :: tl)) C = 0 := by
  have h1 := dt_mv A x (x :: tl) hn l []
  have h2 := dt_pre A (fun C hn => dt_two A x x tl hn) l hn
  have h1 : dt A (x :: (l ++ x :: tl)) C = (-1) ^ l.length * dt A (l ++ x :: x :: tl) C := h1
  rw [h1, show dt A (l ++ x :: x :: tl) C = 0 by omega, Int.mul_zero]
end
/-- the sign of a column -/
def sn : List Nat → Nat → Int
  | [], _ => 1
  | c :: C, q => if q = c then (-1) ^ C.length else sn C q
theorem al_sn (F : Nat → Int) : ∀ {C : List Nat}, C.Nodup → al C F = mx_s (fun q => sn C q * F q) C
  | [], _ => rfl
  | c :: C, hn => by
    have hn := List.nodup_cons.mp hn
    show (-1) ^ C.length * F c + al C F = (if c = c then (-1) ^ C.length else sn C c) * F c + mx_s (fun q => sn (c :: C) q * F q) C
    rw [if_pos rfl, al_sn F hn.2]
    congr 1
    refine mx_s_congr (fun q hq => ?_)
    have ne : ¬ q = c := fun z => hn.1 (z ▸ hq)
    show _ = (if q = c then (-1) ^ C.length else sn C q) * F q
    rw [if_neg ne]
theorem sn_at {q : Nat} : ∀ {l1 l2 : List Nat}, q ∉ l1 → sn (l1 ++ q :: l2) q = (-1) ^ l2.length
  | [], l2, _ => if_pos rfl
  | a :: l1, l2, h => by
    show (if q = a then _ else sn (l1 ++ q :: l2) q) = _
    rw [if_neg (fun z => h (by rw [z]; exact List.mem_cons_self)), sn_at (fun z => h (List.mem_cons_of_mem a z))]
theorem sn_sq {q : Nat} : ∀ {C : List Nat}, sn C q * sn C q = 1
  | [] => rfl
  | c :: C => by
    show (if q = c then (-1) ^ C.length else sn C q) * (if q = c then (-1) ^ C.length else sn C q) = 1
    split
    · exact mx_sq _
    · exact sn_sq
/-- what the reference reckons, with its sign -/
def hc (A : Nat → Nat → Int) (C : List Nat) (p q : Nat) : Int := sn C p * (sn C q * dt A ((C.erase p).reverse) (C.erase q))
theorem hc_sys (A : Nat → Nat → Int) {C : List Nat} (hn : C.Nodup) {p r : Nat} (hp : p ∈ C) (hr : r ∈ C) : mx_s (fun q => A r q * hc A C p q) C = if r = p then dt A C.reverse C else 0 := by
  obtain ⟨u1, u2, e⟩ := List.append_of_mem hp
  have hn' := hn
  rw [e] at hn'
  have nd := List.nodup_append.mp hn'
  have p1 : p ∉ u1 := fun z => nd.2.2 p z p List.mem_cons_self rfl
  have ee : C.erase p = u1 ++ u2 := by rw [e, List.erase_append_right _ p1, List.erase_cons_head]
  have sp : sn C p = (-1) ^ u2.length := by rw [e]; exact sn_at p1
  have e1 : mx_s (fun q => A r q * hc A C p q) C = sn C p * al C (fun q => A r q * dt A ((C.erase p).reverse) (C.erase q)) := by
    rw [al_sn _ hn, ← mx_s_mul]
    refine mx_s_congr (fun q _ => ?_)
    unfold hc
    simp only [Int.mul_left_comm]
  have e2 : al C (fun q => A r q * dt A ((C.erase p).reverse) (C.erase q)) = dt A (r :: (C.erase p).reverse) C := rfl
  rw [e1, e2, ee]
  by_cases z : r = p
  · rw [if_pos z, z, List.reverse_append, sp]
    have := dt_mv A p u1.reverse hn u2.reverse []
    have : dt A (p :: (u2.reverse ++ u1.reverse)) C = (-1) ^ u2.reverse.length * dt A (u2.reverse ++ p :: u1.reverse) C := this
    rw [this, List.length_reverse, ← Int.mul_assoc, mx_sq, Int.one_mul]
    rw [show C.reverse = u2.reverse ++ p :: u1.reverse by rw [e, List.reverse_append, List.reverse_cons, List.append_assoc]; rfl]
  · rw [if_neg z]
    have hm : r ∈ (u1 ++ u2).reverse := by
      rw [List.mem_reverse, ← ee]
      exact (List.mem_erase_of_ne z).mpr hr
    obtain ⟨v1, v2, e3⟩ := List.append_of_mem hm
    rw [e3, dt_eq A r v1 v2 hn, Int.mul_zero]
/-- a system's solution gives the cofactor -/
theorem hc_adj (A : Nat → Nat → Int) {C : List Nat} (hn : C.Nodup) (hs : ∀ a, a ∈ C → ∀ b, b ∈ C → A a b = A b a) {p s : Nat} (hp : p ∈ C) (hs' : s ∈ C) {b : Nat → Int} {M : Int} (hb : ∀ r, r ∈ C → mx_s (fun q => A r q * b q) C = if r = s then M else 0) : M * hc A C p s = b p * dt A C.reverse C := by
  have e1 : mx_s (fun r => mx_s (fun q => b r * (A r q * hc A C p q)) C) C = b p * dt A C.reverse C := by
    rw [mx_s_congr (g := fun r => if r = p then b r * dt A C.reverse C else 0) (fun r hr => by
      rw [mx_s_mul, hc_sys A hn hp hr]
      split
      · rfl
      · exact Int.mul_zero _)]
    rw [mx_s_one hn hp (fun s _ hne => if_neg hne), if_pos rfl]
  have e2 : mx_s (fun r => mx_s (fun q => b r * (A r q * hc A C p q)) C) C = M * hc A C p s := by
    rw [mx_s_swap, mx_s_congr (g := fun q => if q = s then M * hc A C p q else 0) (fun q hq => by
      rw [mx_s_congr (g := fun r => hc A C p q * (A q r * b r)) (fun r hr => by
        rw [hs r hr q hq]
        simp only [Int.mul_assoc, Int.mul_comm, Int.mul_left_comm]), mx_s_mul, hb q hq]
      split
      · exact Int.mul_comm _ _
      · exact Int.mul_zero _)]
    rw [mx_s_one hn hs' (fun t _ hne => if_neg hne), if_pos rfl]
  rw [← e2, e1]
