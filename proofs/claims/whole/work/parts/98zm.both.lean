/-! BOTH SIDES stand beside each other -/
section
variable {rc : Nat → Nat × (Nat → Int32)} {h h' : jxH} {σ : jSt}
/-- what the class does doesn't touch the reference -/
theorem RSt_c (R : RSt h σ) (A : AWt σ) (F : cF h h') : RSt h' σ := by
  have e := F.2.2.2
  have FQ : Fr (fun x => x < 336 ∨ 451 ≤ x) h (h.1, h.2.1, h'.2.2) := ⟨rfl, rfl, fun x hx => e x (by omega) (by omega)⟩
  obtain ⟨⟨a, b, c, d, ee, f, g, k, o, o'⟩, r1, r2, r3, r4, r5, r6, r7, r8, r9⟩ := R
  have g1 : m_scr (h.1, h.2.1, h'.2.2) := mscr_fr FQ (fun x hx => by unfold m_scrP at hx; omega) r9
  have R' : RSt (h.1, h.2.1, h'.2.2) σ := ⟨⟨a, b, c, d, ee, f, g, k, (e _ (by omega) (by omega)).trans o, o'⟩, mtold_fr FQ (by omega) r1, ro_fr FQ (by omega) r2, mtr_fr FQ (fun x _ _ => by omega) A.tr.2.1 r3, msh_fr FQ (fun x _ _ => by omega) r4, mss_fr FQ (fun x _ _ => by omega) r5, mcrew_fr FQ (by omega) r6, mim_fr FQ (by omega) (by omega) r7, mtape_fr FQ (by omega) r8, g1⟩
  exact R'
/-- what the reference does doesn't touch the class -/
theorem CSt_r (C : CSt h σ) (A : AWt σ) (F : rF h h') : CSt h' σ := by
  obtain ⟨h1, h2, h3, h4, h5, h6, h7, h8⟩ := C
  have a4 : c_dyn h' σ.2.2.1 σ.2.2.2.1 := by
    obtain ⟨Q, R, q, r, n, s1, s2, s3, s4⟩ := h4
    refine ⟨Q, R, (F.2.2 _ (by omega)).trans q, (F.2.2 _ (by omega)).trans r, by rw [F.1]; exact n, fun i hi => ?_, fun i hi => ?_, s3, s4⟩
    · rcases s1 i hi with z | ⟨f, b, z1, z2, z3, z4, z5⟩
      · exact Or.inl z
      · exact Or.inr ⟨f, b, z1, z2, z3, by rw [F.1]; exact z4, fo_fr F (fun x a b => by omega) z5⟩
    · rcases s2 i hi with z | ⟨ee, b, z1, z2, z3, z4, z5, g, z6, z7⟩
      · exact Or.inl z
      · exact Or.inr ⟨ee, b, z1, z2, z3, by rw [F.1]; exact z4, (F.2.2 _ (by omega)).trans z5, g, (F.2.2 _ (by omega)).trans z6, z7⟩
  exact ⟨told_fr F (by omega) h1, fo_fr F (fun x a b => by omega) h2, tr_fr F (fun x a b => by omega) A.tr.2.1 h3, a4, cr_fr F (fun x a b => by omega) h5, im_fr F (by omega) (fun x a b => by omega) h6, tp_fr F (fun x a b => by omega) h7, scr_fr F (fun x a => by unfold c_scrP at a; omega) h8⟩
/-- a call on both sides answers one -/
theorem both {kc kr : Nat} {as bs : List Value} {op : Int32 × jSt} (C : CSt h σ) (R : RSt h σ) (A : AWt σ)
    (cc : ∃ h', (∀ d, jx_C rc (d + 23) kc as h = some (some (.int op.1), h')) ∧ CSt h' op.2 ∧ cF h h')
    (rr : ∀ g, RSt g σ → ∃ h', (∀ d, jx_C rc (d + 23) kr bs g = some (some (.int op.1), h')) ∧ RSt h' op.2 ∧ rF g h') (A' : AWt op.2) :
    ∃ h1 h2, (∀ d, jx_C rc (d + 23) kc as h = some (some (.int op.1), h1)) ∧ (∀ d, jx_C rc (d + 23) kr bs h1 = some (some (.int op.1), h2)) ∧ CSt h2 op.2 ∧ RSt h2 op.2 ∧ h2.1 ≤ h.1 + 3 ∧ h2.2.1 ≤ h.2.1 + 27 := by
  obtain ⟨h1, c1, c2, c3⟩ := cc
  obtain ⟨h2, r1, r2, r3⟩ := rr h1 (RSt_c R A c3)
  refine ⟨h1, h2, c1, r1, CSt_r c2 A' r3, r2, ?_, ?_⟩
  · rw [r3.1]; exact c3.2.1
  · rw [r3.2.1]; exact c3.2.2.1
end
