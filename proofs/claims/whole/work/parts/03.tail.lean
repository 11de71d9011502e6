/-! What an instruction does behind it: one state, or an answer; the limit over all numbers of instructions -/
theorem jx_1_some {st : List Value} {f : Int32 → List Value → jxR} {res} (h : jx_1 st f = some res) : ∃ a t, st = .int a :: t ∧ f a t = some res := by
  unfold jx_1 at h
  split at h
  · exact ⟨_, _, rfl, h⟩
  · cases h
theorem jx_2_some {st : List Value} {f : Int32 → Int32 → List Value → jxR} {res} (h : jx_2 st f = some res) : ∃ a b t, st = .int b :: .int a :: t ∧ f a b t = some res := by
  unfold jx_2 at h
  split at h
  · exact ⟨_, _, _, rfl, h⟩
  · cases h
theorem jx_1L_some {st : List Value} {f : Int64 → List Value → jxR} {res} (h : jx_1L st f = some res) : ∃ a t, st = .long a :: t ∧ f a t = some res := by
  unfold jx_1L at h
  split at h
  · exact ⟨_, _, rfl, h⟩
  · cases h
theorem jx_2L_some {st : List Value} {f : Int64 → Int64 → List Value → jxR} {res} (h : jx_2L st f = some res) : ∃ a b t, st = .long b :: .long a :: t ∧ f a b t = some res := by
  unfold jx_2L at h
  split at h
  · exact ⟨_, _, _, rfl, h⟩
  · cases h
theorem jx_LI_some {st : List Value} {f : Int64 → Int32 → List Value → jxR} {res} (h : jx_LI st f = some res) : ∃ a b t, st = .int b :: .long a :: t ∧ f a b t = some res := by
  unfold jx_LI at h
  split at h
  · exact ⟨_, _, _, rfl, h⟩
  · cases h
theorem jx_r_some {st : List Value} {f : Nat → List Value → jxR} {res} (h : jx_r st f = some res) : ∃ a t, st = .ref a :: t ∧ f a t = some res := by
  unfold jx_r at h
  split at h
  · exact ⟨_, _, rfl, h⟩
  · cases h
theorem jx_cV_some {r : jxR} {f : jxH → jxR} {res} (h : jx_cV r f = some res) : ∃ h', r = some (none, h') ∧ f h' = some res := by
  unfold jx_cV at h
  split at h
  · exact ⟨_, rfl, h⟩
  · cases h
theorem jx_cI_some {r : jxR} {f : Int32 → jxH → jxR} {res} (h : jx_cI r f = some res) : ∃ x h', r = some (some (.int x), h') ∧ f x h' = some res := by
  unfold jx_cI at h
  split at h
  · exact ⟨_, _, rfl, h⟩
  · cases h
theorem jx_cL_some {r : jxR} {f : Int64 → jxH → jxR} {res} (h : jx_cL r f = some res) : ∃ x h', r = some (some (.long x), h') ∧ f x h' = some res := by
  unfold jx_cL at h
  split at h
  · exact ⟨_, _, rfl, h⟩
  · cases h
theorem jx_cR_some {r : jxR} {f : Option Nat → jxH → jxR} {res} (h : jx_cR r f = some res) : ∃ x h', r = some (some (va_rf x), h') ∧ f x h' = some res := by
  unfold jx_cR at h
  split at h
  · exact ⟨some _, _, rfl, h⟩
  · exact ⟨none, _, rfl, h⟩
  · cases h
theorem jx_bind_some {α : Type} {o : Option α} {f : α → jxR} {res} (h : o.bind f = some res) : ∃ v, o = some v ∧ f v = some res := by
  cases o with
  | none => cases h
  | some v => exact ⟨v, rfl, h⟩
theorem jx_if_some {c : Prop} [Decidable c] {a b : jxR} {res} (h : (if c then a else b) = some res) : (c ∧ a = some res) ∨ (¬ c ∧ b = some res) := by
  by_cases hc : c
  · exact Or.inl ⟨hc, by rw [if_pos hc] at h; exact h⟩
  · exact Or.inr ⟨hc, by rw [if_neg hc] at h; exact h⟩
theorem jx_sw_some {x : Int32} {d : Nat} {K : Nat → jxR} {res} : ∀ (ts : List Nat) (lo : Int32), jx_sw x lo d K ts = some res → ∃ k, K k = some res ∧ ∀ K' : Nat → jxR, K' k = some res → jx_sw x lo d K' ts = some res
  | [], lo, h => ⟨d, h, fun K' h' => h'⟩
  | t :: ts, lo, h => by
    unfold jx_sw at h
    rcases jx_if_some h with ⟨hc, h⟩ | ⟨hc, h⟩
    · exact ⟨t, h, fun K' h' => by unfold jx_sw; rw [if_pos hc]; exact h'⟩
    · obtain ⟨k, h1, h2⟩ := jx_sw_some ts (lo + 1) h
      exact ⟨k, h1, fun K' h' => by unfold jx_sw; rw [if_neg hc]; exact h2 K' h'⟩
theorem jx_lI_some {ls : List (Nat × Value)} {x : Nat} {f : Int32 → jxR} {res} (h : jx_lI ls x f = some res) : ∃ a, jx_ld ls x = some (.int a) ∧ f a = some res := by
  unfold jx_lI at h
  split at h
  · rename_i e; exact ⟨_, e, h⟩
  · cases h
theorem jx_lL_some {ls : List (Nat × Value)} {x : Nat} {f : Int64 → jxR} {res} (h : jx_lL ls x f = some res) : ∃ a, jx_ld ls x = some (.long a) ∧ f a = some res := by
  unfold jx_lL at h
  split at h
  · rename_i e; exact ⟨_, e, h⟩
  · cases h
theorem jx_lA_some {ls : List (Nat × Value)} {x : Nat} {f : Value → jxR} {res} (h : jx_lA ls x f = some res) : ∃ a, jx_ld ls x = some a ∧ ((∃ k, a = .ref k) ∨ (∃ k, a = .retAddr k) ∨ a = .null) ∧ f a = some res := by
  unfold jx_lA at h
  split at h
  · rename_i e; exact ⟨_, e, Or.inl ⟨_, rfl⟩, h⟩
  · rename_i e; exact ⟨_, e, Or.inr (Or.inl ⟨_, rfl⟩), h⟩
  · rename_i e; exact ⟨_, e, Or.inr (Or.inr rfl), h⟩
  · cases h
theorem jx_pA_some {st : List Value} {f : Value → List Value → jxR} {res} (h : jx_pA st f = some res) : ∃ a t, st = a :: t ∧ ((∃ k, a = .ref k) ∨ a = .null) ∧ f a t = some res := by
  unfold jx_pA at h
  split at h
  · exact ⟨_, _, rfl, Or.inl ⟨_, rfl⟩, h⟩
  · exact ⟨_, _, rfl, Or.inr rfl, h⟩
  · cases h
theorem jx_dup_some {st : List Value} {f : Value → List Value → jxR} {res} (h : jx_dup st f = some res) : ∃ a t, st = a :: t ∧ ((∃ k, a = .int k) ∨ ∃ k, a = .ref k) ∧ f a t = some res := by
  unfold jx_dup at h
  split at h
  · exact ⟨_, _, rfl, Or.inl ⟨_, rfl⟩, h⟩
  · exact ⟨_, _, rfl, Or.inr ⟨_, rfl⟩, h⟩
  · cases h
theorem jx_dup2_some {st : List Value} {f : List Value → List Value → jxR} {res} (h : jx_dup2 st f = some res) : ∃ p t, st = p ++ t ∧ ((∃ a b, p = [.int a, .int b]) ∨ (∃ a b, p = [.int a, .ref b]) ∨ ∃ a, p = [.long a]) ∧ f p t = some res := by
  unfold jx_dup2 at h
  split at h
  · exact ⟨_, _, rfl, Or.inl ⟨_, _, rfl⟩, h⟩
  · exact ⟨_, _, rfl, Or.inr (Or.inl ⟨_, _, rfl⟩), h⟩
  · exact ⟨_, _, rfl, Or.inr (Or.inr ⟨_, rfl⟩), h⟩
  · cases h
theorem jx_nl_some {st : List Value} {f g : List Value → jxR} {res} (h : jx_nl st f g = some res) : (∃ a t, st = .ref a :: t ∧ f t = some res) ∨ ∃ t, st = .null :: t ∧ g t = some res := by
  unfold jx_nl at h
  split at h
  · exact Or.inl ⟨_, _, rfl, h⟩
  · exact Or.inr ⟨_, rfl, h⟩
  · cases h
theorem jx_pv_some {z : Nat} {st : List Value} {f : Value → Nat → List Value → jxR} {res} (h : jx_pv z st f = some res) : ∃ v a t, st = v :: .ref a :: t ∧ ((z = 0 ∧ ∃ k, v = .int k) ∨ (z = 1 ∧ ∃ k, v = .long k) ∨ (z = 2 ∧ ∃ k, v = .ref k) ∨ ((z ≠ 0 ∧ z ≠ 1 ∧ z ≠ 2) ∧ ∃ k, jx_bool k = true ∧ v = .int k)) ∧ f v a t = some res := by
  unfold jx_pv at h
  split at h
  · split at h
    · exact ⟨_, _, _, rfl, Or.inl ⟨rfl, _, rfl⟩, h⟩
    · cases h
  · split at h
    · exact ⟨_, _, _, rfl, Or.inr (Or.inl ⟨rfl, _, rfl⟩), h⟩
    · cases h
  · split at h
    · exact ⟨_, _, _, rfl, Or.inr (Or.inr (Or.inl ⟨rfl, _, rfl⟩)), h⟩
    · cases h
  · rename_i h0 h1 h2
    split at h
    · rcases jx_if_some h with ⟨hc, h⟩ | ⟨_, h⟩
      · exact ⟨_, _, _, rfl, Or.inr (Or.inr (Or.inr ⟨⟨h0, h1, h2⟩, _, hc, rfl⟩)), h⟩
      · cases h
    · cases h
theorem jx_ia_some {st : List Value} {f : Int32 → Nat → List Value → jxR} {res} (h : jx_ia st f = some res) : ∃ k a t, st = .int k :: .ref a :: t ∧ f k a t = some res := by
  unfold jx_ia at h
  split at h
  · exact ⟨_, _, _, rfl, h⟩
  · cases h
theorem jx_ir_some {st : List Value} {f g : Int32 → Nat → List Value → jxR} {res} (h : jx_ir st f g = some res) : (∃ k a t, st = .int k :: .ref a :: t ∧ f k a t = some res) ∨ ∃ k a t, st = .int k :: .retAddr a :: t ∧ g k a t = some res := by
  unfold jx_ir at h
  split at h
  · exact Or.inl ⟨_, _, _, rfl, h⟩
  · exact Or.inr ⟨_, _, _, rfl, h⟩
  · cases h
theorem jx_rr_some {st : List Value} {f g : Nat → List Value → jxR} {res} (h : jx_rr st f g = some res) : (∃ a t, st = .ref a :: t ∧ f a t = some res) ∨ ∃ a t, st = .retAddr a :: t ∧ g a t = some res := by
  unfold jx_rr at h
  split at h
  · exact Or.inl ⟨_, _, rfl, h⟩
  · exact Or.inr ⟨_, _, rfl, h⟩
  · cases h
theorem jx_vs_some {st : List Value} {f : Int32 → Int32 → Nat → List Value → jxR} {res} (h : jx_vs st f = some res) : ∃ v k a t, st = .int v :: .int k :: .ref a :: t ∧ f v k a t = some res := by
  unfold jx_vs at h
  split at h
  · exact ⟨_, _, _, _, rfl, h⟩
  · cases h
theorem jx_vsL_some {st : List Value} {f : Int64 → Int32 → Nat → List Value → jxR} {res} (h : jx_vsL st f = some res) : ∃ v k a t, st = .long v :: .int k :: .ref a :: t ∧ f v k a t = some res := by
  unfold jx_vsL at h
  split at h
  · exact ⟨_, _, _, _, rfl, h⟩
  · cases h
theorem jx_vsQ_some {st : List Value} {f : Nat → Int32 → Nat → List Value → jxR} {g : Int32 → Nat → List Value → jxR} {res} (h : jx_vsQ st f g = some res) : (∃ v k a t, st = .ref v :: .int k :: .ref a :: t ∧ f v k a t = some res) ∨ ∃ k a t, st = .null :: .int k :: .ref a :: t ∧ g k a t = some res := by
  unfold jx_vsQ at h
  split at h
  · exact Or.inl ⟨_, _, _, _, rfl, h⟩
  · exact Or.inr ⟨_, _, _, rfl, h⟩
  · cases h
theorem jx_cps_some {st : List Value} {f : Nat → Int32 → Nat → Int32 → Int32 → List Value → jxR} {res} (h : jx_cps st f = some res) : ∃ a sp b dp n t, st = .int n :: .int dp :: .ref b :: .int sp :: .ref a :: t ∧ f a sp b dp n t = some res := by
  unfold jx_cps at h
  split at h
  · exact ⟨_, _, _, _, _, _, rfl, h⟩
  · cases h
theorem jx_ov_some {v : Option Nat} {f : Value → jxR} {res} (h : jx_ov v f = some res) : f (va_rf v) = some res := by
  cases v <;> exact h
theorem jx_ov_of {v : Option Nat} {f : Value → jxR} {res} (h : f (va_rf v) = some res) : jx_ov v f = some res := by
  cases v <;> exact h
theorem jx_ret_some {z : Nat} {r : jxR} {f : List Value → jxH → jxR} {res} (h : jx_ret z r f = some res) : ∃ v h', r = some (v, h') ∧ f v.toList h' = some res ∧ ((z = 0 ∧ v = none) ∨ (z = 1 ∧ ∃ k, v = some (.int k)) ∨ (z = 2 ∧ ∃ k, v = some (.long k)) ∨ (3 ≤ z ∧ ∃ k, v = some (va_rf k))) ∧ ∀ f' : List Value → jxH → jxR, f' v.toList h' = some res → jx_ret z r f' = some res := by
  rcases z with _ | _ | _ | z
  · obtain ⟨h', rfl, h⟩ := jx_cV_some h
    exact ⟨none, h', rfl, h, Or.inl ⟨rfl, rfl⟩, fun f' h => h⟩
  · obtain ⟨x, h', rfl, h⟩ := jx_cI_some h
    exact ⟨some (.int x), h', rfl, h, Or.inr (Or.inl ⟨rfl, _, rfl⟩), fun f' h => h⟩
  · obtain ⟨x, h', rfl, h⟩ := jx_cL_some h
    exact ⟨some (.long x), h', rfl, h, Or.inr (Or.inr (Or.inl ⟨rfl, _, rfl⟩)), fun f' h => h⟩
  · have h : (jx_cR r fun v h => jx_ov v fun w => f [w] h) = some res := h
    obtain ⟨x, h', rfl, hq⟩ := jx_cR_some h
    refine ⟨some (va_rf x), h', rfl, jx_ov_some hq, Or.inr (Or.inr (Or.inr ⟨by omega, _, rfl⟩)), fun f' h => ?_⟩
    cases x <;> exact h
theorem jx_pop_some : ∀ {y : Nat} {acc st : List Value} {q}, jx_pop y acc st = some q → ∃ as : List Value, as.length = y ∧ st = as ++ q.2 ∧ q.1 = as.reverse ++ acc
  | 0, acc, st, q, h => by
    cases h
    exact ⟨[], rfl, rfl, rfl⟩
  | y + 1, acc, [], q, h => by cases h
  | y + 1, acc, v :: st, q, h => by
    obtain ⟨as, h1, h2, h3⟩ := jx_pop_some (y := y) h
    exact ⟨v :: as, by simp [h1], by rw [h2]; rfl, by rw [h3]; simp⟩
theorem jx_call_some {y z : Nat} {st : List Value} {c : List Value → jxR} {f : List Value → jxH → jxR} {res} (h : jx_call y z st c f = some res) : ∃ (as rest : List Value) (v : Option Value) (h' : jxH), as.length = y ∧ st = as.reverse ++ rest ∧ jx_short rest = true ∧ c as = some (v, h') ∧ f (v.toList ++ rest) h' = some res ∧ ((z = 0 ∧ v = none) ∨ (z = 1 ∧ ∃ k, v = some (.int k)) ∨ (z = 2 ∧ ∃ k, v = some (.long k)) ∨ (3 ≤ z ∧ ∃ k, v = some (va_rf k))) ∧ ∀ f' : List Value → jxH → jxR, f' (v.toList ++ rest) h' = some res → jx_call y z st c f' = some res := by
  unfold jx_call at h ⊢
  obtain ⟨q, hq, h⟩ := jx_bind_some h
  rcases jx_if_some h with ⟨hs, h⟩ | ⟨_, h⟩
  · obtain ⟨as, h1, h2, h3⟩ := jx_pop_some hq
    obtain ⟨v, h', g1, g2, g3, g4⟩ := jx_ret_some h
    refine ⟨q.1, q.2, v, h', by rw [h3]; simp [h1], by rw [h2, h3]; simp, hs, g1, g2, g3, fun f' hf => ?_⟩
    rw [hq]
    show (if jx_short q.2 = true then _ else _) = _
    rw [if_pos hs]
    exact g4 _ hf
  · cases h
/-- heaps grow -/
def jx_le (h h' : jxH) : Prop := h.1 ≤ h'.1 ∧ h.2.1 ≤ h'.2.1
theorem jx_le_rf (h : jxH) : jx_le h h := ⟨Nat.le_refl _, Nat.le_refl _⟩
theorem jx_le_tr {a b c : jxH} (h : jx_le a b) (h' : jx_le b c) : jx_le a c := ⟨Nat.le_trans h.1 h'.1, Nat.le_trans h.2 h'.2⟩
def jx_grows (c : Nat → List Value → jxH → jxR) : Prop := ∀ k a h r h', c k a h = some (r, h') → jx_le h h'
section TAIL
variable {rc : Nat → Nat × (Nat → Int32)} {df : Nat → List Value} {c : Nat → List Value → jxH → jxR} {code : List jxRow}
def jx_T (F : (jxS → jxR) → jxR) (K : jxS → jxR) (h : jxH) (res : Option Value × jxH) : Prop :=
  (∃ s' : jxS, K s' = some res ∧ jx_le h s'.2.2.2 ∧ ∀ K' : jxS → jxR, K' s' = some res → F K' = some res) ∨ (res.2 = h ∧ ∀ K' : jxS → jxR, F K' = some res)
set_option maxHeartbeats 4000000 in
theorem jx_tail (hc : jx_grows c) {K : jxS → jxR} {r : jxRow} {i : Nat} {ls : List (Nat × Value)} {st : List Value} {h : jxH} {res} (hh : jx_step rc df c K r i ls st h = some res) :
    jx_T (fun K' => jx_step rc df c K' r i ls st h) K h res := by
  obtain ⟨pc, ins, len, ⟨x, y, z⟩, v, w, ts, lv⟩ := r
  cases ins
  all_goals first
    | (cases (show (none : jxR) = some res from hh); done)
    | exact Or.inl ⟨_, hh, jx_le_rf _, fun K' hk => hk⟩
    | (obtain ⟨a, b, t, rfl, hh⟩ := jx_2_some hh; exact Or.inl ⟨_, hh, jx_le_rf _, fun K' hk => hk⟩)
    | (obtain ⟨a, t, rfl, hh⟩ := jx_1_some hh; exact Or.inl ⟨_, hh, jx_le_rf _, fun K' hk => hk⟩)
    | (obtain ⟨a, b, t, rfl, hh⟩ := jx_2L_some hh; exact Or.inl ⟨_, hh, jx_le_rf _, fun K' hk => hk⟩)
    | (obtain ⟨a, t, rfl, hh⟩ := jx_1L_some hh; exact Or.inl ⟨_, hh, jx_le_rf _, fun K' hk => hk⟩)
    | (obtain ⟨a, b, t, rfl, hh⟩ := jx_LI_some hh; exact Or.inl ⟨_, hh, jx_le_rf _, fun K' hk => hk⟩)
    | (obtain ⟨a, e, hh⟩ := jx_lI_some hh; exact Or.inl ⟨_, hh, jx_le_rf _, fun K' hk => by show jx_lI _ _ _ = _; unfold jx_lI; rw [e]; exact hk⟩)
    | (obtain ⟨a, e, hh⟩ := jx_lL_some hh; exact Or.inl ⟨_, hh, jx_le_rf _, fun K' hk => by show jx_lL _ _ _ = _; unfold jx_lL; rw [e]; exact hk⟩)
    | (rcases jx_nl_some hh with ⟨a, t, rfl, hh⟩ | ⟨t, rfl, hh⟩ <;> exact Or.inl ⟨_, hh, jx_le_rf _, fun K' hk => hk⟩)
    | (obtain ⟨a, b, t, rfl, hh⟩ := jx_2_some hh; rcases jx_if_some hh with ⟨hq, hh⟩ | ⟨hq, hh⟩; · cases hh
       exact Or.inl ⟨_, hh, jx_le_rf _, fun K' hk => by show (if _ then _ else _) = _; rw [if_neg hq]; exact hk⟩)
    | (obtain ⟨a, b, t, rfl, hh⟩ := jx_2L_some hh; rcases jx_if_some hh with ⟨hq, hh⟩ | ⟨hq, hh⟩; · cases hh
       exact Or.inl ⟨_, hh, jx_le_rf _, fun K' hk => by show (if _ then _ else _) = _; rw [if_neg hq]; exact hk⟩)
    | skip
  case aload =>
    have hq : jx_lA ls x (fun a => K (i + 1, ls, a :: st, h)) = some res := hh
    obtain ⟨a, e, ha, hh⟩ := jx_lA_some hq
    rcases ha with ⟨k, rfl⟩ | ⟨k, rfl⟩ | rfl
    · exact Or.inl ⟨_, hh, jx_le_rf _, fun K' hk => by show jx_lA ls x (fun a => K' (i + 1, ls, a :: st, h)) = _; unfold jx_lA; rw [e]; exact hk⟩
    · exact Or.inl ⟨_, hh, jx_le_rf _, fun K' hk => by show jx_lA ls x (fun a => K' (i + 1, ls, a :: st, h)) = _; unfold jx_lA; rw [e]; exact hk⟩
    · exact Or.inl ⟨_, hh, jx_le_rf _, fun K' hk => by show jx_lA ls x (fun a => K' (i + 1, ls, a :: st, h)) = _; unfold jx_lA; rw [e]; exact hk⟩
  case aload_n =>
    have hq : jx_lA ls x (fun a => K (i + 1, ls, a :: st, h)) = some res := hh
    obtain ⟨a, e, ha, hh⟩ := jx_lA_some hq
    rcases ha with ⟨k, rfl⟩ | ⟨k, rfl⟩ | rfl
    · exact Or.inl ⟨_, hh, jx_le_rf _, fun K' hk => by show jx_lA ls x (fun a => K' (i + 1, ls, a :: st, h)) = _; unfold jx_lA; rw [e]; exact hk⟩
    · exact Or.inl ⟨_, hh, jx_le_rf _, fun K' hk => by show jx_lA ls x (fun a => K' (i + 1, ls, a :: st, h)) = _; unfold jx_lA; rw [e]; exact hk⟩
    · exact Or.inl ⟨_, hh, jx_le_rf _, fun K' hk => by show jx_lA ls x (fun a => K' (i + 1, ls, a :: st, h)) = _; unfold jx_lA; rw [e]; exact hk⟩
  case astore =>
    have hq : jx_pA st (fun a t => K (i + 1, jx_st1 ls x a, t, h)) = some res := hh
    obtain ⟨a, t, rfl, ha, hh⟩ := jx_pA_some hq
    rcases ha with ⟨k, rfl⟩ | rfl
    · exact Or.inl ⟨_, hh, jx_le_rf _, fun K' hk => hk⟩
    · exact Or.inl ⟨_, hh, jx_le_rf _, fun K' hk => hk⟩
  case astore_n =>
    have hq : jx_pA st (fun a t => K (i + 1, jx_st1 ls x a, t, h)) = some res := hh
    obtain ⟨a, t, rfl, ha, hh⟩ := jx_pA_some hq
    rcases ha with ⟨k, rfl⟩ | rfl
    · exact Or.inl ⟨_, hh, jx_le_rf _, fun K' hk => hk⟩
    · exact Or.inl ⟨_, hh, jx_le_rf _, fun K' hk => hk⟩
  case dup =>
    have hq : jx_dup st (fun a t => K (i + 1, ls, a :: a :: t, h)) = some res := hh
    obtain ⟨a, t, rfl, ha, hh⟩ := jx_dup_some hq
    rcases ha with ⟨k, rfl⟩ | ⟨k, rfl⟩
    · exact Or.inl ⟨_, hh, jx_le_rf _, fun K' hk => hk⟩
    · exact Or.inl ⟨_, hh, jx_le_rf _, fun K' hk => hk⟩
  case dup2 =>
    have hq : jx_dup2 st (fun p t => K (i + 1, ls, p ++ (p ++ t), h)) = some res := hh
    obtain ⟨p, t, rfl, ha, hh⟩ := jx_dup2_some hq
    rcases ha with ⟨a, b, rfl⟩ | ⟨a, b, rfl⟩ | ⟨a, rfl⟩
    · exact Or.inl ⟨_, hh, jx_le_rf _, fun K' hk => hk⟩
    · exact Or.inl ⟨_, hh, jx_le_rf _, fun K' hk => hk⟩
    · exact Or.inl ⟨_, hh, jx_le_rf _, fun K' hk => hk⟩
  case ifCond cnd off =>
    cases cnd <;> (obtain ⟨a, t, rfl, hh⟩ := jx_1_some hh
                   rcases jx_if_some hh with ⟨hq, hh⟩ | ⟨hq, hh⟩
                   · exact Or.inl ⟨_, hh, jx_le_rf _, fun K' hk => by show (if _ then _ else _) = _; rw [if_pos hq]; exact hk⟩
                   · exact Or.inl ⟨_, hh, jx_le_rf _, fun K' hk => by show (if _ then _ else _) = _; rw [if_neg hq]; exact hk⟩)
  case if_icmp cnd off =>
    cases cnd <;> (obtain ⟨a, b, t, rfl, hh⟩ := jx_2_some hh
                   rcases jx_if_some hh with ⟨hq, hh⟩ | ⟨hq, hh⟩
                   · exact Or.inl ⟨_, hh, jx_le_rf _, fun K' hk => by show (if _ then _ else _) = _; rw [if_pos hq]; exact hk⟩
                   · exact Or.inl ⟨_, hh, jx_le_rf _, fun K' hk => by show (if _ then _ else _) = _; rw [if_neg hq]; exact hk⟩)
  case tableswitch =>
    obtain ⟨a, t, rfl, hh⟩ := jx_1_some hh
    obtain ⟨k, h1, h2⟩ := jx_sw_some _ _ hh
    exact Or.inl ⟨_, h1, jx_le_rf _, fun K' hk => h2 (fun k => K' (k, ls, t, h)) hk⟩
  case getfield =>
    obtain ⟨a, t, rfl, hh⟩ := jx_r_some hh
    rcases z with _ | _ | z <;> (obtain ⟨q, hq, hh⟩ := jx_bind_some hh; exact Or.inl ⟨_, hh, jx_le_rf _, fun K' hk => by show Option.bind _ _ = _; rw [hq]; exact hk⟩)
  case putfield =>
    have hh0 : jx_pv z st (fun v a t => (jx_pF (jx_at h a) x y v).bind fun e => K (i + 1, ls, t, jx_set h a e)) = some res := hh
    clear hh
    obtain ⟨q, a, t, rfl, hz, hh⟩ := jx_pv_some hh0
    clear hh0
    obtain ⟨e, he, hb⟩ := jx_bind_some hh
    rcases hz with ⟨h0, k, rfl⟩ | ⟨h0, k, rfl⟩ | ⟨h0, k, rfl⟩ | ⟨h0, k, hk, rfl⟩
    · cases h0
      exact Or.inl ⟨_, hb, jx_le_rf _, fun K' hk => by show Option.bind _ _ = _; rw [he]; exact hk⟩
    · cases h0
      exact Or.inl ⟨_, hb, jx_le_rf _, fun K' hk => by show Option.bind _ _ = _; rw [he]; exact hk⟩
    · cases h0
      exact Or.inl ⟨_, hb, jx_le_rf _, fun K' hk => by show Option.bind _ _ = _; rw [he]; exact hk⟩
    · obtain ⟨z', rfl⟩ : ∃ z', z = z' + 3 := ⟨z - 3, by omega⟩
      exact Or.inl ⟨_, hb, jx_le_rf _, fun K' hk' => by show (if jx_bool k = true then Option.bind _ _ else _) = _; rw [if_pos hk, he]; exact hk'⟩
  case iaload =>
    rcases jx_ir_some hh with ⟨k, a, t, rfl, hh⟩ | ⟨k, a, t, rfl, hh⟩
    · obtain ⟨q, hq, hh⟩ := jx_bind_some hh
      exact Or.inl ⟨_, hh, jx_le_rf _, fun K' hk => by show Option.bind _ _ = _; rw [hq]; exact hk⟩
    · rcases jx_if_some hh with ⟨hq, hh⟩ | ⟨hq, hh⟩
      · cases hh
      · exact Or.inl ⟨_, hh, jx_le_rf _, fun K' hk => by show (if _ then _ else _) = _; rw [if_neg hq]; exact hk⟩
  case baload =>
    obtain ⟨k, a, t, rfl, hh⟩ := jx_ia_some hh
    rcases z with _ | _ | _ | z <;> (obtain ⟨q, hq, hh⟩ := jx_bind_some hh; exact Or.inl ⟨_, hh, jx_le_rf _, fun K' hk => by show Option.bind _ _ = _; rw [hq]; exact hk⟩)
  case laload =>
    obtain ⟨k, a, t, rfl, hh⟩ := jx_ia_some hh
    obtain ⟨q, hq, hh⟩ := jx_bind_some hh
    exact Or.inl ⟨_, hh, jx_le_rf _, fun K' hk => by show Option.bind _ _ = _; rw [hq]; exact hk⟩
  case aaload =>
    obtain ⟨k, a, t, rfl, hh⟩ := jx_ia_some hh
    obtain ⟨q, hq, hh⟩ := jx_bind_some hh
    exact Or.inl ⟨_, jx_ov_some hh, jx_le_rf _, fun K' hk => by show Option.bind _ _ = _; rw [hq]; exact jx_ov_of (f := fun w => K' (i + 1, ls, w :: t, h)) hk⟩
  case iastore =>
    obtain ⟨q, k, a, t, rfl, hh⟩ := jx_vs_some hh
    obtain ⟨e, he, hh⟩ := jx_bind_some hh
    exact Or.inl ⟨_, hh, jx_le_rf _, fun K' hk => by show Option.bind _ _ = _; rw [he]; exact hk⟩
  case bastore =>
    obtain ⟨q, k, a, t, rfl, hh⟩ := jx_vs_some hh
    rcases z with _ | _ | _ | z
    · rcases jx_if_some hh with ⟨hq, hh⟩ | ⟨hq, hh⟩
      · obtain ⟨e, he, hh⟩ := jx_bind_some hh
        exact Or.inl ⟨_, hh, jx_le_rf _, fun K' hk => by show (if _ then Option.bind _ _ else _) = _; rw [if_pos hq, he]; exact hk⟩
      · cases hh
    · rcases jx_if_some hh with ⟨hq, hh⟩ | ⟨hq, hh⟩
      · obtain ⟨e, he, hh⟩ := jx_bind_some hh
        exact Or.inl ⟨_, hh, jx_le_rf _, fun K' hk => by show (if _ then Option.bind _ _ else _) = _; rw [if_pos hq, he]; exact hk⟩
      · cases hh
    · obtain ⟨e, he, hh⟩ := jx_bind_some hh
      exact Or.inl ⟨_, hh, jx_le_rf _, fun K' hk => by show Option.bind _ _ = _; rw [he]; exact hk⟩
    · rcases jx_if_some hh with ⟨hq, hh⟩ | ⟨hq, hh⟩
      · obtain ⟨e, he, hh⟩ := jx_bind_some hh
        exact Or.inl ⟨_, hh, jx_le_rf _, fun K' hk => by show (if _ then Option.bind _ _ else _) = _; rw [if_pos hq, he]; exact hk⟩
      · cases hh
  case lastore =>
    obtain ⟨q, k, a, t, rfl, hh⟩ := jx_vsL_some hh
    obtain ⟨e, he, hh⟩ := jx_bind_some hh
    exact Or.inl ⟨_, hh, jx_le_rf _, fun K' hk => by show Option.bind _ _ = _; rw [he]; exact hk⟩
  case aastore =>
    rcases jx_vsQ_some hh with ⟨q, k, a, t, rfl, hh⟩ | ⟨k, a, t, rfl, hh⟩
    · rcases jx_if_some hh with ⟨hq, hh⟩ | ⟨hq, hh⟩
      · obtain ⟨e, he, hh⟩ := jx_bind_some hh
        exact Or.inl ⟨_, hh, jx_le_rf _, fun K' hk => by show (if _ then Option.bind _ _ else _) = _; rw [if_pos hq, he]; exact hk⟩
      · cases hh
    · obtain ⟨e, he, hh⟩ := jx_bind_some hh
      exact Or.inl ⟨_, hh, jx_le_rf _, fun K' hk => by show Option.bind _ _ = _; rw [he]; exact hk⟩
  case arraylength =>
    rcases jx_rr_some hh with ⟨a, t, rfl, hh⟩ | ⟨a, t, rfl, hh⟩
    · obtain ⟨e, he, hh⟩ := jx_bind_some hh
      exact Or.inl ⟨_, hh, jx_le_rf _, fun K' hk => by show Option.bind _ _ = _; rw [he]; exact hk⟩
    · exact Or.inl ⟨_, hh, jx_le_rf _, fun K' hk => hk⟩
  case new => exact Or.inl ⟨_, hh, ⟨Nat.le_succ _, Nat.le_add_right _ _⟩, fun K' hk => hk⟩
  case newarray =>
    obtain ⟨a, t, rfl, hh⟩ := jx_1_some hh
    rcases jx_if_some hh with ⟨hq, hh⟩ | ⟨hq, hh⟩
    · cases hh
    · exact Or.inl ⟨_, hh, ⟨Nat.le_succ _, Nat.le_add_right _ _⟩, fun K' hk => by show (if _ then _ else _) = _; rw [if_neg hq]; exact hk⟩
  case anewarray =>
    obtain ⟨a, t, rfl, hh⟩ := jx_1_some hh
    rcases jx_if_some hh with ⟨hq, hh⟩ | ⟨hq, hh⟩
    · cases hh
    · exact Or.inl ⟨_, hh, ⟨Nat.le_succ _, Nat.le_add_right _ _⟩, fun K' hk => by show (if _ then _ else _) = _; rw [if_neg hq]; exact hk⟩
  case multianewarray =>
    obtain ⟨a, b, t, rfl, hh⟩ := jx_2_some hh
    rcases jx_if_some hh with ⟨hq, hh⟩ | ⟨hq, hh⟩
    · cases hh
    · exact Or.inl ⟨_, hh, ⟨by show h.1 ≤ h.1 + 1 + _; omega, by show h.2.1 ≤ h.2.1 + _ + _; omega⟩, fun K' hk => by show (if _ then _ else _) = _; rw [if_neg hq]; exact hk⟩
  case invokespecial ix =>
    by_cases h9 : z = 9
    · subst h9
      obtain ⟨a, t, rfl, hh⟩ := jx_r_some hh
      rcases jx_if_some hh with ⟨hq, hh⟩ | ⟨hq, hh⟩
      · exact Or.inl ⟨_, hh, jx_le_rf _, fun K' hk => by show (if _ then _ else _) = _; rw [if_pos hq]; exact hk⟩
      · cases hh
    · have e9 : ∀ K' : jxS → jxR, jx_step rc df c K' (pc, .invokespecial ix, len, (x, y, z), v, w, ts, lv) i ls st h = jx_call (y + 1) 0 st (fun as => c x as h) fun st' h' => K' (i + 1, ls, st', h') := fun K' => by
        unfold jx_step
        dsimp only
        split
        · rename_i e; exact absurd e h9
        · rfl
      rw [e9] at hh
      obtain ⟨as, rest, v', h', -, -, -, hcall, hh, -, hk⟩ := jx_call_some hh
      exact Or.inl ⟨_, hh, hc _ _ _ _ _ hcall, fun K' hk' => by show jx_step rc df c K' _ i ls st h = _; rw [e9]; exact hk (fun st' h' => K' (i + 1, ls, st', h')) hk'⟩
  case invokestatic ix =>
    by_cases h9 : z = 9
    · subst h9
      obtain ⟨a, sp, b, dp, n, t, rfl, hh⟩ := jx_cps_some hh
      rcases jx_if_some hh with ⟨hq, hh⟩ | ⟨hq, hh⟩
      · obtain ⟨e, he, hh⟩ := jx_bind_some hh
        exact Or.inl ⟨_, hh, jx_le_rf _, fun K' hk => by show (if _ then Option.bind _ _ else _) = _; rw [if_pos hq, he]; exact hk⟩
      · cases hh
    · have e9 : ∀ K' : jxS → jxR, jx_step rc df c K' (pc, .invokestatic ix, len, (x, y, z), v, w, ts, lv) i ls st h = jx_call y z st (fun as => c x as h) fun st' h' => K' (i + 1, ls, st', h') := fun K' => by
        unfold jx_step
        dsimp only
        split
        · rename_i e; exact absurd e h9
        · rfl
      rw [e9] at hh
      obtain ⟨as, rest, v', h', -, -, -, hcall, hh, -, hk⟩ := jx_call_some hh
      exact Or.inl ⟨_, hh, hc _ _ _ _ _ hcall, fun K' hk' => by show jx_step rc df c K' _ i ls st h = _; rw [e9]; exact hk (fun st' h' => K' (i + 1, ls, st', h')) hk'⟩
  case invokevirtual =>
    have hh : jx_call (y + 1) z st (fun as => c x as h) (fun st' h' => K (i + 1, ls, st', h')) = some res := hh
    obtain ⟨as, rest, v', h', -, -, -, hcall, hh, -, hk⟩ := jx_call_some hh
    exact Or.inl ⟨_, hh, hc _ _ _ _ _ hcall, fun K' hk' => hk (fun st' h' => K' (i + 1, ls, st', h')) hk'⟩
  case ireturn =>
    refine Or.inr ⟨?_, fun K' => hh⟩
    revert hh
    show jx_ri z st h = _ → _
    unfold jx_ri
    split
    · split
      · intro hh; cases hh; rfl
      · intro hh
        rcases jx_if_some hh with ⟨hq, hh⟩ | ⟨hq, hh⟩
        · cases hh; rfl
        · cases hh
    · intro hh; cases hh
  case lreturn =>
    refine Or.inr ⟨?_, fun K' => hh⟩
    revert hh
    show jx_rl st h = _ → _
    unfold jx_rl
    split
    · intro hh; cases hh; rfl
    · intro hh; cases hh
  case areturn =>
    refine Or.inr ⟨?_, fun K' => hh⟩
    revert hh
    show jx_ra st h = _ → _
    unfold jx_ra
    split
    · intro hh; cases hh; rfl
    · intro hh; cases hh; rfl
    · intro hh; cases hh
  case return_ =>
    refine Or.inr ⟨?_, fun K' => hh⟩
    revert hh
    show jx_rv st h = _ → _
    unfold jx_rv
    split
    · intro hh; cases hh; rfl
    · intro hh; cases hh
theorem jx_tail1 (hc : jx_grows c) {K : jxS → jxR} {s : jxS} {res} (hh : jx_one rc df c code K s = some res) : jx_T (fun K' => jx_one rc df c code K' s) K s.2.2.2 res := by
  unfold jx_one at hh ⊢
  split at hh
  · exact jx_tail hc hh
  · cases hh
theorem jx_norm_h (s : jxS) : (jx_norm code s).2.2.2 = s.2.2.2 := by
  unfold jx_norm
  split <;> rfl
theorem jx_loop_up (hc : jx_grows c) : ∀ (n : Nat) (s : jxS) (res), jx_loop rc df c code n s = some res → jx_loop rc df c code (n + 1) s = some res
  | 0, _, _, h => by cases h
  | n + 1, s, res, h => by
    rcases jx_tail1 hc (K := fun s' => jx_loop rc df c code n (jx_norm code s')) h with ⟨s', h1, -, h2⟩ | ⟨-, h2⟩
    · exact h2 (fun s' => jx_loop rc df c code (n + 1) (jx_norm code s')) (jx_loop_up hc n _ _ h1)
    · exact h2 _
theorem jx_loop_le (hc : jx_grows c) {n m : Nat} (h : n ≤ m) {s : jxS} {res} (hh : jx_loop rc df c code n s = some res) : jx_loop rc df c code m s = some res := by
  induction h with
  | refl => exact hh
  | step _ ih => exact jx_loop_up hc _ _ _ ih
theorem jx_loop_grow (hc : jx_grows c) : ∀ (n : Nat) (s : jxS) (res), jx_loop rc df c code n s = some res → jx_le s.2.2.2 res.2
  | 0, _, _, h => by cases h
  | n + 1, s, res, h => by
    rcases jx_tail1 hc (K := fun s' => jx_loop rc df c code n (jx_norm code s')) h with ⟨s', h1, h3, -⟩ | ⟨h3, -⟩
    · have := jx_loop_grow hc n _ _ h1
      rw [jx_norm_h] at this
      exact jx_le_tr h3 this
    · rw [h3]; exact jx_le_rf _
theorem jx_G_ex (s : jxS) (hc : jx_grows c) : ∃ o : jxR, ∀ res, o = some res ↔ ∃ n, jx_loop rc df c code n s = some res := by
  by_cases h : ∃ res n, jx_loop rc df c code n s = some res
  · obtain ⟨res, n, h⟩ := h
    refine ⟨some res, fun res' => ⟨fun e => ⟨n, by cases e; exact h⟩, fun ⟨m, h'⟩ => ?_⟩⟩
    have h1 := jx_loop_le hc (Nat.le_max_left n m) h
    have h2 := jx_loop_le hc (Nat.le_max_right n m) h'
    exact h1.symm.trans h2
  · refine ⟨none, fun res => ⟨fun e => (by cases e), fun ⟨n, hn⟩ => absurd ⟨res, n, hn⟩ h⟩⟩
end TAIL
/-- what a method's code answers from a state on -/
noncomputable def jx_G (rc : Nat → Nat × (Nat → Int32)) (df : Nat → List Value) (c : Nat → List Value → jxH → jxR) (code : List jxRow) (s : jxS) : jxR :=
  Classical.epsilon (fun o : jxR => ∀ res, o = some res ↔ ∃ n, jx_loop rc df c code n s = some res)
section LIM
variable {rc : Nat → Nat × (Nat → Int32)} {df : Nat → List Value} {c : Nat → List Value → jxH → jxR} {code : List jxRow}
theorem jx_G_iff (hc : jx_grows c) (s : jxS) (res) : jx_G rc df c code s = some res ↔ ∃ n, jx_loop rc df c code n s = some res :=
  Classical.epsilon_spec (p := fun o : jxR => ∀ res, o = some res ↔ ∃ n, jx_loop rc df c code n s = some res) (jx_G_ex s hc) res
theorem jx_opt_ext {α : Type} {a b : Option α} (h : ∀ r, a = some r ↔ b = some r) : a = b := by
  cases a with
  | none =>
    cases b with
    | none => rfl
    | some b => exact ((h b).mpr rfl).symm ▸ rfl
  | some a => exact ((h a).mp rfl).symm
theorem jx_G_eq (hc : jx_grows c) (s : jxS) : jx_G rc df c code s = jx_one rc df c code (fun s' => jx_G rc df c code (jx_norm code s')) s := by
  refine jx_opt_ext fun res => ?_
  rw [jx_G_iff hc]
  constructor
  · rintro ⟨n, h⟩
    cases n with
    | zero => cases h
    | succ n =>
      rcases jx_tail1 hc (K := fun s' => jx_loop rc df c code n (jx_norm code s')) h with ⟨s', h1, -, h2⟩ | ⟨-, h2⟩
      · exact h2 _ ((jx_G_iff hc _ _).mpr ⟨n, h1⟩)
      · exact h2 _
  · intro h
    rcases jx_tail1 hc h with ⟨s', h1, -, h2⟩ | ⟨-, h2⟩
    · obtain ⟨n, hn⟩ := (jx_G_iff hc _ _).mp h1
      exact ⟨n + 1, h2 (fun s' => jx_loop rc df c code n (jx_norm code s')) hn⟩
    · exact ⟨1, h2 (fun s' => jx_loop rc df c code 0 (jx_norm code s'))⟩
theorem jx_one_congr {K K' : jxS → jxR} (h : ∀ s, K s = K' s) (s : jxS) : jx_one rc df c code K s = jx_one rc df c code K' s := by
  rw [show K = K' from funext h]
theorem jx_G_run (hc : jx_grows c) : ∀ (n : Nat) (s : jxS), jx_G rc df c code s = jx_run rc df c code (jx_G rc df c code) n s
  | 0, _ => rfl
  | n + 1, s => by
    rw [jx_G_eq hc]
    show _ = jx_one rc df c code _ s
    refine jx_one_congr (fun s' => ?_) s
    unfold jx_norm
    split
    · rfl
    · exact jx_G_run hc n s'
end LIM
/-- how many words values take -/
def jx_wl : List Value → Nat
  | [] => 0
  | v :: t => v.category + jx_wl t
/-- calls, to a depth; mt: a method's code by its number, its locals, and the class of its object (if it has one) -/
noncomputable def jx_X (rc : Nat → Nat × (Nat → Int32)) (df : Nat → List Value) (mt : Nat → Option (Option Nat × Nat × List jxRow)) : Nat → Nat → List Value → jxH → jxR
  | 0 => fun _ _ _ => none
  | d + 1 => fun k as h => match mt k with
    | some (none, nL, code) => if Nat.ble (jx_wl as) nL = true then jx_G rc df (jx_X rc df mt d) code (jx_norm code (0, lv_args 0 as, [], h)) else none
    | some (some ci, nL, code) => match as with
      | .ref b :: t => if Nat.ble (jx_wl (.ref b :: t)) nL = true then (if jx_is (jx_at h b) ci = true then jx_G rc df (jx_X rc df mt d) code (jx_norm code (0, lv_args 0 (.ref b :: t), [], h)) else none) else none
      | _ => none
    | none => none
theorem jx_X_inv {rc : Nat → Nat × (Nat → Int32)} {df : Nat → List Value} {mt : Nat → Option (Option Nat × Nat × List jxRow)} {d k : Nat} {as : List Value} {h : jxH} {res} (hh : jx_X rc df mt (d + 1) k as h = some res) :
    ∃ oc nL code, mt k = some (oc, nL, code) ∧ jx_wl as ≤ nL ∧ (∀ ci, oc = some ci → ∃ b t, as = .ref b :: t ∧ jx_is (jx_at h b) ci = true) ∧ jx_G rc df (jx_X rc df mt d) code (jx_norm code (0, lv_args 0 as, [], h)) = some res := by
  unfold jx_X at hh
  split at hh
  · rename_i nL code e
    rcases jx_if_some hh with ⟨hq, hh⟩ | ⟨hq, hh⟩
    · exact ⟨none, nL, code, e, Nat.le_of_ble_eq_true hq, fun ci z => (by cases z), hh⟩
    · cases hh
  · rename_i ci nL code e
    split at hh
    · rename_i b t
      rcases jx_if_some hh with ⟨hq, hh⟩ | ⟨hq, hh⟩
      · rcases jx_if_some hh with ⟨hq2, hh⟩ | ⟨hq2, hh⟩
        · exact ⟨some ci, nL, code, e, Nat.le_of_ble_eq_true hq, fun ci' z => ⟨b, t, rfl, by cases z; exact hq2⟩, hh⟩
        · cases hh
      · cases hh
    · cases hh
  · cases hh
theorem jx_X_grows (rc : Nat → Nat × (Nat → Int32)) (df : Nat → List Value) (mt : Nat → Option (Option Nat × Nat × List jxRow)) : ∀ d, jx_grows (jx_X rc df mt d)
  | 0 => fun _ _ _ _ _ h => by cases h
  | d + 1 => by
    have ih := jx_X_grows rc df mt d
    intro k as h r h' hh
    obtain ⟨oc, nL, code, -, -, -, hh⟩ := jx_X_inv hh
    obtain ⟨n, hn⟩ := (jx_G_iff ih _ _).mp hh
    have := jx_loop_grow ih n _ _ hn
    rw [jx_norm_h] at this
    exact this
