/-! THE LAW'S LOOP (written by gen_go.py) -/
def lz_P (h : jxH) (m : Nat) (E : Nat → jxR) : Prop := ∃ h', (∀ d, E d = some (some (.int 1), h')) ∧ h'.1 ≤ h.1 + 3 * m ∧ h'.2.1 ≤ h.2.1 + 27 * m
theorem lz_ite {h : jxH} {m : Nat} {c : Prop} [Decidable c] {E F : Nat → jxR} (h1 : c → lz_P h m E) (h2 : ¬ c → lz_P h m F) : lz_P h m (fun d => if c then E d else F d) := by
  by_cases z : c
  · obtain ⟨h', q, r⟩ := h1 z
    exact ⟨h', fun d => (if_pos z).trans (q d), r⟩
  · obtain ⟨h', q, r⟩ := h2 z
    exact ⟨h', fun d => (if_neg z).trans (q d), r⟩
def lz_H (rc : Nat → Nat × (Nat → Int32)) (N : Nat) : Prop := ∀ (h : jxH) (σ : jSt) (x3 : Int32), CSt h σ → RSt h σ → AWt σ → lz_o rc x3 → lz_S rc h x3 N
section
variable {rc : Nat → Nat × (Nat → Int32)}
theorem lz_in {L k i : Nat} (hL : L ≤ 3072) (hk : 6 * k + 6 ≤ L) (hi : i ≤ 5) : ¬ jx_out (Int32.ofNat (6 * k) + Int32.ofNat i) L = true := by
  rw [jk_add2]
  unfold jx_out
  rw [decide_eq_false (jk_nn (by omega)), jk_cl (by omega), decide_eq_false (by omega)]
  simp
theorem law_go (hr : jk_rom rc) (hL : (rc 0).1 ≤ 3072) : ∀ (m k : Nat) (h : jxH) (σ : jSt), (rc 0).1 < 6 * (k + m) + 6 → k ≤ 600 → CSt h σ → RSt h σ → AWt σ → lz_P h m (fun d => jb_333 rc (d + 23) 10 [(0, .retAddr 0), (1, .ref 0), (2, .ref 336), (3, .int (Int32.ofNat (6 * k)))] [] h) := by
  intro m
  induction m with
  | zero =>
    intro k h σ e hk C R A
    refine ⟨h, fun d => ?_, Nat.le_refl _, Nat.le_refl _⟩
    show jb_333 rc (d + 23) 10 [(0, .retAddr 0), (1, .ref 0), (2, .ref 336), (3, .int (Int32.ofNat (6 * k)))] [] h = _
    rw [je_333_10, if_pos (by rw [Int32.lt_iff_toInt_lt, Int32.toInt_sub, jk_int (by omega), jk_int (by omega), show (6 : Int32).toInt = 6 from rfl, Int.bmod_eq_of_le (by omega) (by omega)]; omega), if_pos jk_b1]
  | succ m ih =>
    intro k h σ e hk C R A
    have ee : (fun d => jb_333 rc (d + 23) 10 [(0, .retAddr 0), (1, .ref 0), (2, .ref 336), (3, .int (Int32.ofNat (6 * k)))] [] h) = fun d => _ := funext fun d => je_333_10 rc (d + 23) 0 336 (Int32.ofNat (6 * k)) h
    rw [ee]
    refine lz_ite (fun _ => ⟨h, fun d => if_pos jk_b1, by omega, by omega⟩) (fun c => ?_)
    have kL : 6 * k + 6 ≤ (rc 0).1 := by
      rcases Nat.lt_or_ge (rc 0).1 (6 * k + 6) with z | z
      · exact absurd (by rw [Int32.lt_iff_toInt_lt, Int32.toInt_sub, jk_int (by omega), jk_int (by omega), show (6 : Int32).toInt = 6 from rfl, Int.bmod_eq_of_le (by omega) (by omega)]; omega) c
      · exact z
    have o : lz_o rc (Int32.ofNat (6 * k)) := ⟨lz_in hL kL (show 1 ≤ 5 by decide), lz_in hL kL (show 2 ≤ 5 by decide), lz_in hL kL (show 3 ≤ 5 by decide), lz_in hL kL (show 4 ≤ 5 by decide), lz_in hL kL (show 5 ≤ 5 by decide)⟩
    have o0 := lz_in (i := 0) hL kL (by decide)
    rw [show Int32.ofNat (6 * k) + Int32.ofNat 0 = Int32.ofNat (6 * k) by rw [jk_add2]; rfl] at o0
    have nx : Int32.ofNat (6 * k) + (6 : Int32) = Int32.ofNat (6 * (k + 1)) := jk_add2 _ 6
    have next : ∀ N, lz_S rc h (Int32.ofNat (6 * k)) N → lz_P h (m + 1) (fun d => jb_333 rc (d + 23) N [(0, .retAddr 0), (1, .ref 0), (2, .ref 336), (3, .int (Int32.ofNat (6 * k)))] [] h) := fun N S => by
      obtain ⟨h1, σ1, s1, C1, R1, A1, n1, n2⟩ := S
      obtain ⟨h2, q, r1, r2⟩ := ih (k + 1) h1 σ1 (by omega) (by omega) C1 R1 A1
      refine ⟨h2, fun d => ?_, by omega, by omega⟩
      have s1' := s1 d
      rw [nx] at s1'
      exact s1'.trans (q d)
    refine lz_ite (fun z => absurd z o0) (fun _ => ?_)
    refine lz_ite (fun _ => next 22 (lz_22 hr C R A _ o)) (fun _ => ?_)
    refine lz_ite (fun _ => next 39 (lz_39 hr C R A _ o)) (fun _ => ?_)
    refine lz_ite (fun _ => next 66 (lz_66 hr C R A _ o)) (fun _ => ?_)
    refine lz_ite (fun _ => next 93 (lz_93 hr C R A _ o)) (fun _ => ?_)
    refine lz_ite (fun _ => next 120 (lz_120 hr C R A _ o)) (fun _ => ?_)
    refine lz_ite (fun _ => next 137 (lz_137 hr C R A _ o)) (fun _ => ?_)
    refine lz_ite (fun _ => next 164 (lz_164 hr C R A _ o)) (fun _ => ?_)
    refine lz_ite (fun _ => next 191 (lz_191 hr C R A _ o)) (fun _ => ?_)
    refine lz_ite (fun _ => next 248 (lz_248 hr C R A _ o)) (fun _ => ?_)
    refine lz_ite (fun _ => next 255 (lz_255 hr C R A _ o)) (fun _ => ?_)
    refine lz_ite (fun _ => next 262 (lz_262 hr C R A _ o)) (fun _ => ?_)
    refine lz_ite (fun _ => next 289 (lz_289 hr C R A _ o)) (fun _ => ?_)
    refine lz_ite (fun _ => next 296 (lz_296 hr C R A _ o)) (fun _ => ?_)
    refine lz_ite (fun _ => next 313 (lz_313 hr C R A _ o)) (fun _ => ?_)
    refine lz_ite (fun _ => next 320 (lz_320 hr C R A _ o)) (fun _ => ?_)
    refine lz_ite (fun _ => next 357 (lz_357 hr C R A _ o)) (fun _ => ?_)
    refine lz_ite (fun _ => next 374 (lz_374 hr C R A _ o)) (fun _ => ?_)
    refine lz_ite (fun _ => next 391 (lz_391 hr C R A _ o)) (fun _ => ?_)
    refine lz_ite (fun _ => next 408 (lz_408 hr C R A _ o)) (fun _ => ?_)
    refine lz_ite (fun _ => next 415 (lz_415 hr C R A _ o)) (fun _ => ?_)
    refine lz_ite (fun _ => next 452 (lz_452 hr C R A _ o)) (fun _ => ?_)
    refine lz_ite (fun _ => next 479 (lz_479 hr C R A _ o)) (fun _ => ?_)
    refine lz_ite (fun _ => next 506 (lz_506 hr C R A _ o)) (fun _ => ?_)
    refine lz_ite (fun _ => next 543 (lz_543 hr C R A _ o)) (fun _ => ?_)
    refine lz_ite (fun _ => next 570 (lz_570 hr C R A _ o)) (fun _ => ?_)
    refine lz_ite (fun _ => next 621 (lz_621 hr C R A _ o)) (fun _ => ?_)
    refine lz_ite (fun _ => next 628 (lz_628 hr C R A _ o)) (fun _ => ?_)
    refine lz_ite (fun _ => next 645 (lz_645 hr C R A _ o)) (fun _ => ?_)
    refine lz_ite (fun _ => next 662 (lz_662 hr C R A _ o)) (fun _ => ?_)
    refine lz_ite (fun _ => next 679 (lz_679 hr C R A _ o)) (fun _ => ?_)
    refine lz_ite (fun _ => next 696 (lz_696 hr C R A _ o)) (fun _ => ?_)
    refine lz_ite (fun _ => next 713 (lz_713 hr C R A _ o)) (fun _ => ?_)
    refine lz_ite (fun _ => next 740 (lz_740 hr C R A _ o)) (fun _ => ?_)
    refine lz_ite (fun _ => next 767 (lz_767 hr C R A _ o)) (fun _ => ?_)
    refine lz_ite (fun _ => next 794 (lz_794 hr C R A _ o)) (fun _ => ?_)
    refine lz_ite (fun _ => next 821 (lz_821 hr C R A _ o)) (fun _ => ?_)
    refine lz_ite (fun _ => next 848 (lz_848 hr C R A _ o)) (fun _ => ?_)
    refine lz_ite (fun _ => next 875 (lz_875 hr C R A _ o)) (fun _ => ?_)
    refine lz_ite (fun _ => next 902 (lz_902 hr C R A _ o)) (fun _ => ?_)
    refine lz_ite (fun _ => next 919 (lz_919 hr C R A _ o)) (fun _ => ?_)
    refine lz_ite (fun _ => next 946 (lz_946 hr C R A _ o)) (fun _ => ?_)
    refine lz_ite (fun _ => next 973 (lz_973 hr C R A _ o)) (fun _ => ?_)
    refine lz_ite (fun _ => next 1010 (lz_1010 hr C R A _ o)) (fun _ => ?_)
    refine lz_ite (fun _ => next 1047 (lz_1047 hr C R A _ o)) (fun _ => ?_)
    refine lz_ite (fun _ => next 1074 (lz_1074 hr C R A _ o)) (fun _ => ?_)
    refine lz_ite (fun _ => next 1131 (lz_1131 hr C R A _ o)) (fun _ => ?_)
    refine lz_ite (fun _ => next 1148 (lz_1148 hr C R A _ o)) (fun _ => ?_)
    refine lz_ite (fun _ => next 1165 (lz_1165 hr C R A _ o)) (fun _ => ?_)
    refine lz_ite (fun _ => next 1192 (lz_1192 hr C R A _ o)) (fun _ => ?_)
    refine lz_ite (fun _ => next 1199 (lz_1199 hr C R A _ o)) (fun _ => ?_)
    refine lz_ite (fun _ => next 1206 (lz_1206 hr C R A _ o)) (fun _ => ?_)
    refine lz_ite (fun _ => next 1223 (lz_1223 hr C R A _ o)) (fun _ => ?_)
    obtain ⟨h2, q, r1, r2⟩ := ih (k + 1) h σ (by omega) (by omega) C R A
    refine ⟨h2, fun d => ?_, by omega, by omega⟩
    dsimp only
    rw [nx]
    exact q d
/-- the law answers one, in its room -/
theorem law_all (hr : jk_rom rc) (hL : (rc 0).1 ≤ 3072) : ∃ h' : jxH, jb_333 rc 1000 0 [(0, .retAddr 0)] [] (0, 0, fun _ => .inr (.inr ())) = some (some (.int 1), h') ∧ h'.1 ≤ 600000 ∧ h'.2.1 ≤ 7302250 := by
  obtain ⟨h1, a1, C, R, n1, n2⟩ := law_start (rc := rc) (0, 0, fun _ => .inr (.inr ())) rfl
  obtain ⟨h2, q, r1, r2⟩ := law_go hr hL 512 0 h1 s0 (by omega) (by omega) C R s0_W
  refine ⟨h2, (a1 996).trans (q 977), ?_, ?_⟩
  · rw [n1] at r1; omega
  · rw [n2] at r2
    have : h2.2.1 ≤ 0 + 17376 + 27 * 512 := r2
    omega
end
