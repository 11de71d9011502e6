/-! Minors of sets: the sum that the reference lays out, over lists of places -/
theorem mx_f_congr {w w' : Nat → Int} {e e' : Nat → Nat → Int} : ∀ (n : Nat) (l : List Nat), (∀ a ∈ l, w a = w' a) → (∀ a ∈ l, ∀ b ∈ l, e a b = e' a b) → mx_f w e n l = mx_f w' e' n l
  | 0, l, _, _ => rfl
  | n + 1, [], _, _ => rfl
  | n + 1, p :: l, hw, he => by
    show w p * mx_f w e n l - mx_s (fun q => e p q * mx_f w e n (l.erase q)) l = w' p * mx_f w' e' n l - mx_s (fun q => e' p q * mx_f w' e' n (l.erase q)) l
    rw [hw p List.mem_cons_self, mx_f_congr n l (fun a ha => hw a (List.mem_cons_of_mem p ha)) (fun a ha b hb => he a (List.mem_cons_of_mem p ha) b (List.mem_cons_of_mem p hb))]
    congr 1
    apply mx_s_congr
    intro q hq
    rw [he p List.mem_cons_self q (List.mem_cons_of_mem p hq), mx_f_congr n (l.erase q) (fun a ha => hw a (List.mem_cons_of_mem p (List.mem_of_mem_erase ha))) (fun a ha b hb => he a (List.mem_cons_of_mem p (List.mem_of_mem_erase ha)) b (List.mem_cons_of_mem p (List.mem_of_mem_erase hb)))]
theorem mx_p_congr {w w' : Nat → Int} {e e' : Nat → Nat → Int} {l : List Nat} (hw : ∀ a ∈ l, w a = w' a) (he : ∀ a ∈ l, ∀ b ∈ l, e a b = e' a b) : mx_p w e l = mx_p w' e' l := mx_f_congr _ l hw he
def ew (f : jF) (p : Nat) : Int := (f.1 p).toInt
def ee (f : jF) (p q : Nat) : Int := i01 (bt (f.2.1 p) q)
/-- the places of a set -/
def sl (S : Int32) : List Nat := (List.range 12).filter (bt S)
def MP (f : jF) (S : Int32) : Int := mx_p (ew f) (ee f) (sl S)
theorem sl_mem {S : Int32} {x : Nat} : x ∈ sl S ↔ x < 12 ∧ bt S x = true := by
  unfold sl; rw [List.mem_filter, List.mem_range]
theorem sl_nodup (S : Int32) : (sl S).Nodup := List.Pairwise.filter _ List.nodup_range
theorem sl_length (S : Int32) : (sl S).length = bc S := by unfold sl bc; rw [List.countP_eq_length_filter]
theorem sl_0 : sl 0 = [] := by
  unfold sl
  rw [List.filter_eq_nil_iff]
  intro a _
  rw [bt_0]; decide
theorem sl_erase (S : Int32) {p : Nat} (hp : p < 12) : sl (S &&& (jk_bit p ^^^ (-1))) = (sl S).erase p := by
  have : (sl S).erase p = (sl S).filter (fun x => x != p) := List.Nodup.erase_eq_filter (sl_nodup S) p
  rw [this]
  unfold sl
  rw [List.filter_filter]
  apply List.filter_congr
  intro x hx
  have hx := List.mem_range.mp hx
  rw [bt_clr _ hp hx, Bool.and_comm]
  by_cases q : x = p <;> simp [q]
theorem mx_s_filter (F : Nat → Int) (P : Nat → Bool) : ∀ n : Nat, mx_s F ((List.range n).filter P) = js (fun q => if P q = true then F q else 0) n
  | 0 => rfl
  | n + 1 => by
    rw [List.range_succ, List.filter_append, mx_s_app, mx_s_filter F P n]
    show _ = js _ n + (if P n = true then F n else 0)
    congr 1
    by_cases h : P n = true
    · rw [if_pos h, List.filter_cons_of_pos h]; show F n + 0 = F n; omega
    · rw [if_neg h, List.filter_cons_of_neg h]; rfl
theorem mx_s_sl (F : Nat → Int) (S : Int32) : mx_s F (sl S) = js (fun q => if bt S q = true then F q else 0) 12 := mx_s_filter F (bt S) 12
theorem sl_low {S : Int32} {p : Nat} (h : lo S = some p) : sl S = p :: sl (S &&& (jk_bit p ^^^ (-1))) := by
  obtain ⟨h1, h2, h3⟩ := lo_some.mp h
  unfold sl
  have e : List.range 12 = List.range p ++ p :: (List.range (11 - p)).map (fun x => p + 1 + x) := by
    rw [show (12 : Nat) = p + (1 + (11 - p)) by omega, List.range_add, List.range_add]
    simp [List.map_map]
    intro a _
    omega
  rw [e, List.filter_append, List.filter_append]
  have z1 : (List.range p).filter (bt S) = [] := by
    rw [List.filter_eq_nil_iff]
    intro a ha
    rw [h3 a (List.mem_range.mp ha)]; decide
  have z2 : (List.range p).filter (bt (S &&& (jk_bit p ^^^ (-1)))) = [] := by
    rw [List.filter_eq_nil_iff]
    intro a ha
    rw [bt_and, h3 a (List.mem_range.mp ha)]; simp
  rw [z1, z2, List.filter_cons_of_pos h2, List.filter_cons_of_neg (by rw [bt_clr _ h1 h1]; simp)]
  show p :: _ = p :: _
  congr 1
  apply List.filter_congr
  intro x hx
  obtain ⟨y, hy, rfl⟩ := List.mem_map.mp hx
  have hy := List.mem_range.mp hy
  rw [bt_clr _ h1 (by omega)]
  simp; omega
/-- the reference's way -/
theorem MP_low (f : jF) {S : Int32} {p : Nat} (h : lo S = some p) (hS : S12 S) : MP f S = ew f p * MP f (S &&& (jk_bit p ^^^ (-1))) - js (fun q => if bt ((S &&& (jk_bit p ^^^ (-1))) &&& f.2.1 p) q = true then MP f ((S &&& (jk_bit p ^^^ (-1))) &&& (jk_bit q ^^^ (-1))) else 0) 12 := by
  unfold MP
  rw [sl_low h, mx_p_cons, mx_s_sl]
  congr 1
  apply js_congr
  intro q hq
  generalize S &&& (jk_bit p ^^^ (-1)) = R
  rw [bt_and]
  by_cases a : bt R q = true
  · by_cases b : bt (f.2.1 p) q = true
    · rw [if_pos a, if_pos (by rw [a, b]; rfl), sl_erase _ hq]
      unfold ee
      rw [b]
      show 1 * _ = _
      rw [Int.one_mul]
    · rw [if_pos a, if_neg (by simp [b])]
      unfold ee
      rw [show bt (f.2.1 p) q = false by simpa using b]
      show 0 * _ = (0 : Int)
      rw [Int.zero_mul]
  · rw [if_neg a, if_neg (by simp [a])]
theorem MP_0 (f : jF) : MP f 0 = 1 := by unfold MP; rw [sl_0]; rfl
