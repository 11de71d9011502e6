/-! Bits of what a move makes -/
theorem bt_cmp (x : Int32) {k : Nat} (hk : k < 32) : bt (~~~x) k = !bt x k := by rw [← Int32.xor_neg_one, bt_not _ hk]
section
variable {f g : jF}
theorem jb_join (f : jF) {p q x y : Nat} (hp : p < 12) (hq : q < 12) (hy : y < 32) : bt ((jf_join f p q).2.1 x) y = (bt (f.2.1 x) y || decide (x = p ∧ y = q) || decide (x = q ∧ y = p)) := by
  unfold jf_join upd
  simp only []
  by_cases h1 : x = q
  · subst h1
    by_cases h2 : x = p
    · subst h2
      simp [bt_or, bt_bit (show x < 32 by omega) hy]
    · simp [h2, bt_or, bt_bit (show p < 32 by omega) hy]
  · by_cases h2 : x = p
    · subst h2
      simp [h1, bt_or, bt_bit (show q < 32 by omega) hy]
    · simp [h1, h2]
theorem jb_part (f : jF) {p q x y : Nat} (hp : p < 12) (hq : q < 12) (hy : y < 32) : bt ((jf_part f p q).2.1 x) y = (bt (f.2.1 x) y && !decide (x = p ∧ y = q) && !decide (x = q ∧ y = p)) := by
  unfold jf_part upd
  simp only []
  by_cases h1 : x = q
  · subst h1
    by_cases h2 : x = p
    · subst h2
      simp [bt_and, bt_cmp _ hy, bt_bit (show x < 32 by omega) hy]
    · simp [h2, bt_and, bt_cmp _ hy, bt_bit (show p < 32 by omega) hy]
  · by_cases h2 : x = p
    · subst h2
      simp [h1, bt_and, bt_cmp _ hy, bt_bit (show q < 32 by omega) hy]
    · simp [h1, h2]
theorem jb_rem (f : jF) {p x y : Nat} (hp : p < 12) (hy : y < 32) : bt ((jf_rem f p).2.1 x) y = (bt (f.2.1 x) y && !decide (x = p) && !decide (y = p)) := by
  unfold jf_rem upd
  simp only []
  by_cases h1 : x = p
  · simp [h1, bt_0]
  · simp [h1, bt_and, bt_cmp _ hy, bt_bit (show p < 32 by omega) hy]
theorem jb_joins (f : jF) {p x y : Nat} (s : Int32) (hp : p < 12) (hy : y < 32) : ∀ n, n ≤ 12 → bt ((jf_joins f p s n).2.1 x) y = (bt (f.2.1 x) y || (decide (x = p ∧ y < n) && bt s y) || (decide (y = p ∧ x < n) && bt s x))
  | 0, _ => by simp [jf_joins]
  | n + 1, h => by
    unfold jf_joins
    split
    · rename_i hb
      rw [jb_join _ hp (by omega) hy, jb_joins f s hp hy n (by omega)]
      grind
    · rename_i hb
      rw [jb_joins f s hp hy n (by omega)]
      grind
theorem jb_parts (f : jF) {p x y : Nat} (s : Int32) (hp : p < 12) (hy : y < 32) : ∀ n, n ≤ 12 → bt ((jf_parts f p s n).2.1 x) y = (bt (f.2.1 x) y && !(decide (x = p ∧ y < n) && bt s y) && !(decide (y = p ∧ x < n) && bt s x))
  | 0, _ => by simp [jf_parts]
  | n + 1, h => by
    unfold jf_parts
    split
    · rename_i hb
      rw [jb_part _ hp (by omega) hy, jb_parts f s hp hy n (by omega)]
      grind
    · rename_i hb
      rw [jb_parts f s hp hy n (by omega)]
      grind
theorem jw_joins (f : jF) (p : Nat) (s : Int32) : ∀ n, (jf_joins f p s n).1 = f.1 ∧ (jf_joins f p s n).2.2 = f.2.2
  | 0 => ⟨rfl, rfl⟩
  | n + 1 => by
    unfold jf_joins
    split
    · exact jw_joins f p s n
    · exact jw_joins f p s n
theorem jw_parts (f : jF) (p : Nat) (s : Int32) : ∀ n, (jf_parts f p s n).1 = f.1 ∧ (jf_parts f p s n).2.2 = f.2.2
  | 0 => ⟨rfl, rfl⟩
  | n + 1 => by
    unfold jf_parts
    split
    · exact jw_parts f p s n
    · exact jw_parts f p s n
end
