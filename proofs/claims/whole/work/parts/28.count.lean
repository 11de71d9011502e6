/-! The changes of sign with noughts left out, counted vertex by vertex in a large scale -/
section CT
variable (w : Nat → Int) (e : Nat → Nat → Int)
theorem mx_ok_large : ∀ l : List Nat, ∃ N0 : Int, ∀ N : Int, N0 ≤ N → mx_ok (mx_wN w N) (mx_eN e N) l
  | [] => ⟨0, fun _ _ => trivial⟩
  | p :: l => by
    obtain ⟨N1, h1⟩ := mx_ok_large l
    obtain ⟨N2, h2⟩ := mx_above w e (p :: l)
    exact ⟨if N1 ≤ N2 then N2 else N1, fun N hN => ⟨fun k hk => (h2 N (by split at hN <;> omega)).1 k hk, h1 N (by split at hN <;> omega)⟩⟩
theorem mx_eN_nn (hu : ∀ a b, 0 ≤ e a b) (N : Int) (a b : Nat) : 0 ≤ mx_eN e N a b := by
  refine Int.mul_nonneg ?_ (hu a b)
  rcases Int.le_total 0 N with q | q
  · exact Int.mul_nonneg q q
  · exact Int.mul_nonneg_of_nonpos_of_nonpos q q
theorem mx_count (hs : ∀ a b, e a b = e b a) (hu : ∀ a b, 0 ≤ e a b) {l : List Nat} (hn : l.Nodup) : ∃ N0 : Int, ∀ N : Int, N0 ≤ N → mx_ok (mx_wN w N) (mx_eN e N) l ∧ (mx_t (mx_al (mx_e w e l)) l.length).1 = mx_c (mx_wN w N) (mx_eN e N) l := by
  obtain ⟨N1, h1⟩ := mx_ok_large w e l
  obtain ⟨N2, h2⟩ := mx_above w e l
  refine ⟨if N1 ≤ N2 then N2 else N1, fun N hN => ?_⟩
  have a1 := h1 N (by split at hN <;> omega)
  have a2 := h2 N (by split at hN <;> omega)
  refine ⟨a1, ?_⟩
  rw [← a2.2]
  exact mx_chain (mx_wN w N) (mx_eN e N) (fun a b => by show N * N * e a b = N * N * e b a; rw [hs]) (mx_eN_nn e hu N) l hn a1
end CT
