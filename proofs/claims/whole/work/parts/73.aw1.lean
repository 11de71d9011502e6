/-! What stands stays well formed: by hand, the trail -/
section
variable {σ : jSt}
theorem aa_er {k : Nat} (A : AWt σ) : AWt (er σ k).2 := A
theorem aa_hand (A : AWt σ) {g : jF} (W : jf_W g) : AWt (hand σ g) := ⟨⟨Nat.le_refl _, by show 0 ≤ 40; omega, W, fun i hi => absurd hi (Nat.not_lt_zero i)⟩, A.2⟩
theorem aa_tell (A : AWt σ) (x : Int64) : AWt (op_tell σ x).2 := by
  unfold op_tell
  split
  · exact aa_er A
  · split
    · exact aa_er A
    · exact A
theorem aa_vertex (A : AWt σ) (w : Int32) : AWt (op_vertex σ w).2 := by
  unfold op_vertex
  split
  · rename_i c1
    split
    · exact aa_er A
    · rename_i c2
      obtain ⟨c, hc⟩ := bc_free (x := (sF σ).2.2) (by omega)
      rw [jf_free_of hc]
      exact aa_hand A (jf_W_grow A.W hc c1)
  · exact aa_er A
theorem aa_weigh (A : AWt σ) (p w : Int32) : AWt (op_weigh σ p w).2 := by
  unfold op_weigh
  split
  · rename_i c0
    obtain ⟨k, hk, rfl, hb⟩ := jF_has_iff.mp c0
    split
    · rename_i c1
      rw [pn_of hk]
      exact aa_hand A (jf_W_setw A.W hk hb c1)
    · exact aa_er A
  · exact aa_er A
theorem aa_tie (A : AWt σ) (p q : Int32) : AWt (op_tie σ p q).2 := by
  unfold op_tie
  split
  · rename_i c0
    split
    · rename_i c1
      obtain ⟨k, hk, rfl, hb⟩ := jF_has_iff.mp c0
      obtain ⟨j, hj, rfl, hb'⟩ := jF_has_iff.mp c1
      rw [pn_of hk, pn_of hj]
      split
      · exact aa_er A
      · rename_i c2
        exact aa_hand A (jf_W_tie A.W hk hj hb hb' (T := jt_T (sF σ) k) (fun x y hx hy h => jt_T_edge A.B hk hx hy h) (jt_T_self _ hk) (by simpa using c2))
    · exact aa_er A
  · exact aa_er A
theorem aa_cut (A : AWt σ) (p q : Int32) : AWt (op_cut σ p q).2 := by
  unfold op_cut
  split
  · rename_i c0
    split
    · rename_i c1
      obtain ⟨k, hk, rfl, hb⟩ := jF_has_iff.mp c0
      obtain ⟨j, hj, rfl, hb'⟩ := jF_has_iff.mp c1
      rw [pn_of hk, pn_of hj]
      split
      · exact aa_hand A (jf_W_part A.W hk hj)
      · exact aa_er A
    · exact aa_er A
  · exact aa_er A
theorem aa_take (A : AWt σ) (p : Int32) : AWt (op_take σ p).2 := by
  unfold op_take
  split
  · rename_i c0
    obtain ⟨k, hk, rfl, hb⟩ := jF_has_iff.mp c0
    rw [pn_of hk]
    exact aa_hand A (jf_W_rem A.W hk)
  · exact aa_er A
theorem aa_at (A : AWt σ) (p w : Int32) : AWt (op_at σ p w).2 := by
  unfold op_at
  repeat' split
  all_goals first | exact A | exact aa_er A
theorem aa_table (A : AWt σ) (p q : Int32) : AWt (op_table σ p q).2 := by
  unfold op_table
  repeat' split
  all_goals first | exact A | exact aa_er A
theorem aa_push (A : tr_W σ.2.1) {m : jM} (hm : jm_norm m = m) (e : jf_ref (sF σ) false m = 0) (h40 : σ.2.1.1 < 40) : tr_W (tr_push σ.2.1 m) := by
  obtain ⟨a1, a2, a3, a4⟩ := A
  have f0 : (tr_push σ.2.1 m).2.2.2.2 = fun i => if i ≤ σ.2.1.1 then σ.2.1.2.2.2.2 i else jf_act (tr_F σ.2.1) m := rfl
  refine ⟨Nat.le_refl _, h40, by rw [f0]; dsimp only; rw [if_pos (Nat.zero_le _)]; exact a3, fun i hi => ?_⟩
  have hi : i < σ.2.1.1 + 1 := hi
  rw [f0]
  dsimp only
  rw [if_pos (by omega)]
  show jf_ref _ false (va_up σ.2.1.2.2.1 σ.2.1.1 m i) = 0 ∧ _ = jf_act _ (va_up σ.2.1.2.2.1 σ.2.1.1 m i) ∧ jm_norm (va_up σ.2.1.2.2.1 σ.2.1.1 m i) = va_up σ.2.1.2.2.1 σ.2.1.1 m i
  unfold va_up
  by_cases q : i = σ.2.1.1
  · rw [if_pos q, if_neg (by omega), q]
    exact ⟨e, rfl, hm⟩
  · rw [if_neg q, if_pos (by omega)]
    exact a4 i (by omega)
theorem aa_move (A : AWt σ) (k p q v s : Int32) : AWt (op_move σ k p q v s).2 := by
  unfold op_move
  split
  · rename_i c0
    have c40 : ¬ 40 ≤ σ.2.1.1 := fun z => by
      rw [decide_eq_true z, jf_ref_full] at c0
      unfold ref_g at c0
      split at c0
      · exact absurd c0 (by decide)
      · rename_i w; exact w (Or.inl c0)
    rw [decide_eq_false c40] at c0
    exact ⟨aa_push A.tr (jm_norm_idem _) (by rw [jf_ref_norm]; exact c0) (by omega), A.2⟩
  · exact aa_er A
theorem aa_undo (A : AWt σ) : AWt (op_undo σ).2 := by
  unfold op_undo
  split
  · exact aa_er A
  · obtain ⟨a1, a2, a3, a4⟩ := A.tr
    exact ⟨⟨by show σ.2.1.1 - 1 ≤ σ.2.1.2.1; omega, a2, a3, a4⟩, A.2⟩
theorem aa_redo (A : AWt σ) : AWt (op_redo σ).2 := by
  unfold op_redo
  split
  · exact aa_er A
  · obtain ⟨a1, a2, a3, a4⟩ := A.tr
    exact ⟨⟨by show σ.2.1.1 + 1 ≤ σ.2.1.2.1; omega, a2, a3, a4⟩, A.2⟩
theorem aa_trail (A : AWt σ) (i w : Int32) : AWt (op_trail σ i w).2 := by
  unfold op_trail
  repeat' split
  all_goals first | exact A | exact aa_er A
theorem aa_factor (A : AWt σ) : AWt (op_factor σ).2 := A
theorem aa_minor (A : AWt σ) (s : Int32) : AWt (op_minor σ s).2 := by
  unfold op_minor
  split
  · exact aa_tell A _
  · exact aa_er A
theorem aa_det (A : AWt σ) : AWt (op_det σ).2 := aa_tell A _
end
