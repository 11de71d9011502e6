/-! THE LAW'S CALLS (written by gen_loop.py) -/
def lz_o (rc : Nat → Nat × (Nat → Int32)) (x3 : Int32) : Prop := ¬ jx_out (x3 + (1 : Int32)) (rc 0).1 = true ∧ ¬ jx_out (x3 + (2 : Int32)) (rc 0).1 = true ∧ ¬ jx_out (x3 + (3 : Int32)) (rc 0).1 = true ∧ ¬ jx_out (x3 + (4 : Int32)) (rc 0).1 = true ∧ ¬ jx_out (x3 + (5 : Int32)) (rc 0).1 = true
/-- a call on both sides goes on to the next -/
def lz_S (rc : Nat → Nat × (Nat → Int32)) (h : jxH) (x3 : Int32) (N : Nat) : Prop := ∃ h' σ', (∀ d, jb_333 rc (d + 23) N [(0, .retAddr 0), (1, .ref 0), (2, .ref 336), (3, .int x3)] [] h = jb_333 rc (d + 23) 10 [(0, .retAddr 0), (1, .ref 0), (2, .ref 336), (3, .int (x3 + (6 : Int32)))] [] h') ∧ CSt h' σ' ∧ RSt h' σ' ∧ AWt σ' ∧ h'.1 ≤ h.1 + 3 ∧ h'.2.1 ≤ h.2.1 + 27
section
variable {rc : Nat → Nat × (Nat → Int32)} {h : jxH} {σ : jSt}
theorem lz_22 (hr : jk_rom rc) (C : CSt h σ) (R : RSt h σ) (A : AWt σ) (x3 : Int32) (o : lz_o rc x3) : lz_S rc h x3 22 := by
  obtain ⟨h1, h2, c1, r1, C2, R2, n1, n2⟩ := both (rc := rc) (kc := 1) (kr := 107) (as := [.ref 0, .int ((rc 0).2 ((x3 + (1 : Int32))).toNatClampNeg)]) (bs := [.ref 336, .int ((rc 0).2 ((x3 + (1 : Int32))).toNatClampNeg)]) (op := op_vertex σ (((rc 0).2 ((x3 + (1 : Int32))).toNatClampNeg))) C R A
    (by obtain ⟨h', q, z⟩ := cc_vertex (rc := rc) C A (((rc 0).2 ((x3 + (1 : Int32))).toNatClampNeg)); exact ⟨h', fun d => q (d + 3), z⟩)
    (fun g Rg => by obtain ⟨h', q, z⟩ := rr_vertex (rc := rc) Rg A (((rc 0).2 ((x3 + (1 : Int32))).toNatClampNeg)); exact ⟨h', fun d => q (d + 3), z⟩) (aa_vertex A (((rc 0).2 ((x3 + (1 : Int32))).toNatClampNeg)))
  refine ⟨h2, _, fun d => ?_, C2, R2, aa_vertex A (((rc 0).2 ((x3 + (1 : Int32))).toNatClampNeg)), n1, n2⟩
  rw [je_333_22, if_neg o.1, c1, jk_cI, if_neg o.1, r1, jk_cI, if_pos rfl]
theorem lz_39 (hr : jk_rom rc) (C : CSt h σ) (R : RSt h σ) (A : AWt σ) (x3 : Int32) (o : lz_o rc x3) : lz_S rc h x3 39 := by
  obtain ⟨h1, h2, c1, r1, C2, R2, n1, n2⟩ := both (rc := rc) (kc := 2) (kr := 108) (as := [.ref 0, .int ((rc 0).2 ((x3 + (1 : Int32))).toNatClampNeg), .int ((rc 0).2 ((x3 + (2 : Int32))).toNatClampNeg)]) (bs := [.ref 336, .int ((rc 0).2 ((x3 + (1 : Int32))).toNatClampNeg), .int ((rc 0).2 ((x3 + (2 : Int32))).toNatClampNeg)]) (op := op_weigh σ (((rc 0).2 ((x3 + (1 : Int32))).toNatClampNeg)) (((rc 0).2 ((x3 + (2 : Int32))).toNatClampNeg))) C R A
    (by obtain ⟨h', q, z⟩ := cc_weigh (rc := rc) C A (((rc 0).2 ((x3 + (1 : Int32))).toNatClampNeg)) (((rc 0).2 ((x3 + (2 : Int32))).toNatClampNeg)); exact ⟨h', fun d => q (d + 3), z⟩)
    (fun g Rg => by obtain ⟨h', q, z⟩ := rr_weigh (rc := rc) Rg A (((rc 0).2 ((x3 + (1 : Int32))).toNatClampNeg)) (((rc 0).2 ((x3 + (2 : Int32))).toNatClampNeg)); exact ⟨h', fun d => q (d + 3), z⟩) (aa_weigh A (((rc 0).2 ((x3 + (1 : Int32))).toNatClampNeg)) (((rc 0).2 ((x3 + (2 : Int32))).toNatClampNeg)))
  refine ⟨h2, _, fun d => ?_, C2, R2, aa_weigh A (((rc 0).2 ((x3 + (1 : Int32))).toNatClampNeg)) (((rc 0).2 ((x3 + (2 : Int32))).toNatClampNeg)), n1, n2⟩
  rw [je_333_39, if_neg o.1, if_neg o.2.1, c1, jk_cI, if_neg o.1, if_neg o.2.1, r1, jk_cI, if_pos rfl]
theorem lz_66 (hr : jk_rom rc) (C : CSt h σ) (R : RSt h σ) (A : AWt σ) (x3 : Int32) (o : lz_o rc x3) : lz_S rc h x3 66 := by
  obtain ⟨h1, h2, c1, r1, C2, R2, n1, n2⟩ := both (rc := rc) (kc := 3) (kr := 109) (as := [.ref 0, .int ((rc 0).2 ((x3 + (1 : Int32))).toNatClampNeg), .int ((rc 0).2 ((x3 + (2 : Int32))).toNatClampNeg)]) (bs := [.ref 336, .int ((rc 0).2 ((x3 + (1 : Int32))).toNatClampNeg), .int ((rc 0).2 ((x3 + (2 : Int32))).toNatClampNeg)]) (op := op_tie σ (((rc 0).2 ((x3 + (1 : Int32))).toNatClampNeg)) (((rc 0).2 ((x3 + (2 : Int32))).toNatClampNeg))) C R A
    (by obtain ⟨h', q, z⟩ := cc_tie (rc := rc) C A (((rc 0).2 ((x3 + (1 : Int32))).toNatClampNeg)) (((rc 0).2 ((x3 + (2 : Int32))).toNatClampNeg)); exact ⟨h', fun d => q (d + 3), z⟩)
    (fun g Rg => by obtain ⟨h', q, z⟩ := rr_tie (rc := rc) Rg A (((rc 0).2 ((x3 + (1 : Int32))).toNatClampNeg)) (((rc 0).2 ((x3 + (2 : Int32))).toNatClampNeg)); exact ⟨h', fun d => q (d + 3), z⟩) (aa_tie A (((rc 0).2 ((x3 + (1 : Int32))).toNatClampNeg)) (((rc 0).2 ((x3 + (2 : Int32))).toNatClampNeg)))
  refine ⟨h2, _, fun d => ?_, C2, R2, aa_tie A (((rc 0).2 ((x3 + (1 : Int32))).toNatClampNeg)) (((rc 0).2 ((x3 + (2 : Int32))).toNatClampNeg)), n1, n2⟩
  rw [je_333_66, if_neg o.1, if_neg o.2.1, c1, jk_cI, if_neg o.1, if_neg o.2.1, r1, jk_cI, if_pos rfl]
theorem lz_93 (hr : jk_rom rc) (C : CSt h σ) (R : RSt h σ) (A : AWt σ) (x3 : Int32) (o : lz_o rc x3) : lz_S rc h x3 93 := by
  obtain ⟨h1, h2, c1, r1, C2, R2, n1, n2⟩ := both (rc := rc) (kc := 4) (kr := 110) (as := [.ref 0, .int ((rc 0).2 ((x3 + (1 : Int32))).toNatClampNeg), .int ((rc 0).2 ((x3 + (2 : Int32))).toNatClampNeg)]) (bs := [.ref 336, .int ((rc 0).2 ((x3 + (1 : Int32))).toNatClampNeg), .int ((rc 0).2 ((x3 + (2 : Int32))).toNatClampNeg)]) (op := op_cut σ (((rc 0).2 ((x3 + (1 : Int32))).toNatClampNeg)) (((rc 0).2 ((x3 + (2 : Int32))).toNatClampNeg))) C R A
    (by obtain ⟨h', q, z⟩ := cc_cut (rc := rc) C A (((rc 0).2 ((x3 + (1 : Int32))).toNatClampNeg)) (((rc 0).2 ((x3 + (2 : Int32))).toNatClampNeg)); exact ⟨h', fun d => q (d + 3), z⟩)
    (fun g Rg => by obtain ⟨h', q, z⟩ := rr_cut (rc := rc) Rg A (((rc 0).2 ((x3 + (1 : Int32))).toNatClampNeg)) (((rc 0).2 ((x3 + (2 : Int32))).toNatClampNeg)); exact ⟨h', fun d => q (d + 3), z⟩) (aa_cut A (((rc 0).2 ((x3 + (1 : Int32))).toNatClampNeg)) (((rc 0).2 ((x3 + (2 : Int32))).toNatClampNeg)))
  refine ⟨h2, _, fun d => ?_, C2, R2, aa_cut A (((rc 0).2 ((x3 + (1 : Int32))).toNatClampNeg)) (((rc 0).2 ((x3 + (2 : Int32))).toNatClampNeg)), n1, n2⟩
  rw [je_333_93, if_neg o.1, if_neg o.2.1, c1, jk_cI, if_neg o.1, if_neg o.2.1, r1, jk_cI, if_pos rfl]
theorem lz_120 (hr : jk_rom rc) (C : CSt h σ) (R : RSt h σ) (A : AWt σ) (x3 : Int32) (o : lz_o rc x3) : lz_S rc h x3 120 := by
  obtain ⟨h1, h2, c1, r1, C2, R2, n1, n2⟩ := both (rc := rc) (kc := 5) (kr := 111) (as := [.ref 0, .int ((rc 0).2 ((x3 + (1 : Int32))).toNatClampNeg)]) (bs := [.ref 336, .int ((rc 0).2 ((x3 + (1 : Int32))).toNatClampNeg)]) (op := op_take σ (((rc 0).2 ((x3 + (1 : Int32))).toNatClampNeg))) C R A
    (by obtain ⟨h', q, z⟩ := cc_take (rc := rc) C A (((rc 0).2 ((x3 + (1 : Int32))).toNatClampNeg)); exact ⟨h', fun d => q (d + 3), z⟩)
    (fun g Rg => by obtain ⟨h', q, z⟩ := rr_take (rc := rc) Rg A (((rc 0).2 ((x3 + (1 : Int32))).toNatClampNeg)); exact ⟨h', fun d => q (d + 3), z⟩) (aa_take A (((rc 0).2 ((x3 + (1 : Int32))).toNatClampNeg)))
  refine ⟨h2, _, fun d => ?_, C2, R2, aa_take A (((rc 0).2 ((x3 + (1 : Int32))).toNatClampNeg)), n1, n2⟩
  rw [je_333_120, if_neg o.1, c1, jk_cI, if_neg o.1, r1, jk_cI, if_pos rfl]
theorem lz_137 (hr : jk_rom rc) (C : CSt h σ) (R : RSt h σ) (A : AWt σ) (x3 : Int32) (o : lz_o rc x3) : lz_S rc h x3 137 := by
  obtain ⟨h1, h2, c1, r1, C2, R2, n1, n2⟩ := both (rc := rc) (kc := 6) (kr := 114) (as := [.ref 0, .int ((rc 0).2 ((x3 + (1 : Int32))).toNatClampNeg), .int ((rc 0).2 ((x3 + (2 : Int32))).toNatClampNeg)]) (bs := [.ref 336, .int ((rc 0).2 ((x3 + (1 : Int32))).toNatClampNeg), .int ((rc 0).2 ((x3 + (2 : Int32))).toNatClampNeg)]) (op := op_at σ (((rc 0).2 ((x3 + (1 : Int32))).toNatClampNeg)) (((rc 0).2 ((x3 + (2 : Int32))).toNatClampNeg))) C R A
    (by obtain ⟨h', q, z⟩ := cc_at (rc := rc) hr C A (((rc 0).2 ((x3 + (1 : Int32))).toNatClampNeg)) (((rc 0).2 ((x3 + (2 : Int32))).toNatClampNeg)); exact ⟨h', fun d => q (d + 3), z⟩)
    (fun g Rg => by obtain ⟨h', q, z⟩ := rr_at (rc := rc) Rg A (((rc 0).2 ((x3 + (1 : Int32))).toNatClampNeg)) (((rc 0).2 ((x3 + (2 : Int32))).toNatClampNeg)); exact ⟨h', fun d => q (d + 3), z⟩) (aa_at A (((rc 0).2 ((x3 + (1 : Int32))).toNatClampNeg)) (((rc 0).2 ((x3 + (2 : Int32))).toNatClampNeg)))
  refine ⟨h2, _, fun d => ?_, C2, R2, aa_at A (((rc 0).2 ((x3 + (1 : Int32))).toNatClampNeg)) (((rc 0).2 ((x3 + (2 : Int32))).toNatClampNeg)), n1, n2⟩
  rw [je_333_137, if_neg o.1, if_neg o.2.1, c1, jk_cI, if_neg o.1, if_neg o.2.1, r1, jk_cI, if_pos rfl]
theorem lz_164 (hr : jk_rom rc) (C : CSt h σ) (R : RSt h σ) (A : AWt σ) (x3 : Int32) (o : lz_o rc x3) : lz_S rc h x3 164 := by
  obtain ⟨h1, h2, c1, r1, C2, R2, n1, n2⟩ := both (rc := rc) (kc := 7) (kr := 116) (as := [.ref 0, .int ((rc 0).2 ((x3 + (1 : Int32))).toNatClampNeg), .int ((rc 0).2 ((x3 + (2 : Int32))).toNatClampNeg)]) (bs := [.ref 336, .int ((rc 0).2 ((x3 + (1 : Int32))).toNatClampNeg), .int ((rc 0).2 ((x3 + (2 : Int32))).toNatClampNeg)]) (op := op_table σ (((rc 0).2 ((x3 + (1 : Int32))).toNatClampNeg)) (((rc 0).2 ((x3 + (2 : Int32))).toNatClampNeg))) C R A
    (by obtain ⟨h', q, z⟩ := cc_table (rc := rc) C A (((rc 0).2 ((x3 + (1 : Int32))).toNatClampNeg)) (((rc 0).2 ((x3 + (2 : Int32))).toNatClampNeg)); exact ⟨h', fun d => q (d + 3), z⟩)
    (fun g Rg => by obtain ⟨h', q, z⟩ := rr_table (rc := rc) Rg A (((rc 0).2 ((x3 + (1 : Int32))).toNatClampNeg)) (((rc 0).2 ((x3 + (2 : Int32))).toNatClampNeg)); exact ⟨h', fun d => q (d + 3), z⟩) (aa_table A (((rc 0).2 ((x3 + (1 : Int32))).toNatClampNeg)) (((rc 0).2 ((x3 + (2 : Int32))).toNatClampNeg)))
  refine ⟨h2, _, fun d => ?_, C2, R2, aa_table A (((rc 0).2 ((x3 + (1 : Int32))).toNatClampNeg)) (((rc 0).2 ((x3 + (2 : Int32))).toNatClampNeg)), n1, n2⟩
  rw [je_333_164, if_neg o.1, if_neg o.2.1, c1, jk_cI, if_neg o.1, if_neg o.2.1, r1, jk_cI, if_pos rfl]
theorem lz_191 (hr : jk_rom rc) (C : CSt h σ) (R : RSt h σ) (A : AWt σ) (x3 : Int32) (o : lz_o rc x3) : lz_S rc h x3 191 := by
  obtain ⟨h1, h2, c1, r1, C2, R2, n1, n2⟩ := both (rc := rc) (kc := 8) (kr := 102) (as := [.ref 0, .int ((rc 0).2 ((x3 + (1 : Int32))).toNatClampNeg), .int ((rc 0).2 ((x3 + (2 : Int32))).toNatClampNeg), .int ((rc 0).2 ((x3 + (3 : Int32))).toNatClampNeg), .int ((rc 0).2 ((x3 + (4 : Int32))).toNatClampNeg), .int ((rc 0).2 ((x3 + (5 : Int32))).toNatClampNeg)]) (bs := [.ref 336, .int ((rc 0).2 ((x3 + (1 : Int32))).toNatClampNeg), .int ((rc 0).2 ((x3 + (2 : Int32))).toNatClampNeg), .int ((rc 0).2 ((x3 + (3 : Int32))).toNatClampNeg), .int ((rc 0).2 ((x3 + (4 : Int32))).toNatClampNeg), .int ((rc 0).2 ((x3 + (5 : Int32))).toNatClampNeg)]) (op := op_move σ (((rc 0).2 ((x3 + (1 : Int32))).toNatClampNeg)) (((rc 0).2 ((x3 + (2 : Int32))).toNatClampNeg)) (((rc 0).2 ((x3 + (3 : Int32))).toNatClampNeg)) (((rc 0).2 ((x3 + (4 : Int32))).toNatClampNeg)) (((rc 0).2 ((x3 + (5 : Int32))).toNatClampNeg))) C R A
    (by obtain ⟨h', q, z⟩ := cc_move (rc := rc) hr C A (((rc 0).2 ((x3 + (1 : Int32))).toNatClampNeg)) (((rc 0).2 ((x3 + (2 : Int32))).toNatClampNeg)) (((rc 0).2 ((x3 + (3 : Int32))).toNatClampNeg)) (((rc 0).2 ((x3 + (4 : Int32))).toNatClampNeg)) (((rc 0).2 ((x3 + (5 : Int32))).toNatClampNeg)); exact ⟨h', fun d => q (d + 3), z⟩)
    (fun g Rg => by obtain ⟨h', q, z⟩ := rr_move (rc := rc) Rg A (((rc 0).2 ((x3 + (1 : Int32))).toNatClampNeg)) (((rc 0).2 ((x3 + (2 : Int32))).toNatClampNeg)) (((rc 0).2 ((x3 + (3 : Int32))).toNatClampNeg)) (((rc 0).2 ((x3 + (4 : Int32))).toNatClampNeg)) (((rc 0).2 ((x3 + (5 : Int32))).toNatClampNeg)); exact ⟨h', fun d => q (d + 3), z⟩) (aa_move A (((rc 0).2 ((x3 + (1 : Int32))).toNatClampNeg)) (((rc 0).2 ((x3 + (2 : Int32))).toNatClampNeg)) (((rc 0).2 ((x3 + (3 : Int32))).toNatClampNeg)) (((rc 0).2 ((x3 + (4 : Int32))).toNatClampNeg)) (((rc 0).2 ((x3 + (5 : Int32))).toNatClampNeg)))
  refine ⟨h2, _, fun d => ?_, C2, R2, aa_move A (((rc 0).2 ((x3 + (1 : Int32))).toNatClampNeg)) (((rc 0).2 ((x3 + (2 : Int32))).toNatClampNeg)) (((rc 0).2 ((x3 + (3 : Int32))).toNatClampNeg)) (((rc 0).2 ((x3 + (4 : Int32))).toNatClampNeg)) (((rc 0).2 ((x3 + (5 : Int32))).toNatClampNeg)), n1, n2⟩
  rw [je_333_191, if_neg o.1, if_neg o.2.1, if_neg o.2.2.1, if_neg o.2.2.2.1, if_neg o.2.2.2.2, c1, jk_cI, if_neg o.1, if_neg o.2.1, if_neg o.2.2.1, if_neg o.2.2.2.1, if_neg o.2.2.2.2, r1, jk_cI, if_pos rfl]
theorem lz_248 (hr : jk_rom rc) (C : CSt h σ) (R : RSt h σ) (A : AWt σ) (x3 : Int32) (o : lz_o rc x3) : lz_S rc h x3 248 := by
  obtain ⟨h1, h2, c1, r1, C2, R2, n1, n2⟩ := both (rc := rc) (kc := 9) (kr := 103) (as := [.ref 0]) (bs := [.ref 336]) (op := op_undo σ ) C R A
    (by obtain ⟨h', q, z⟩ := cc_undo (rc := rc) C A ; exact ⟨h', fun d => q (d + 3), z⟩)
    (fun g Rg => by obtain ⟨h', q, z⟩ := rr_undo (rc := rc) Rg A ; exact ⟨h', fun d => q (d + 3), z⟩) (aa_undo A )
  refine ⟨h2, _, fun d => ?_, C2, R2, aa_undo A , n1, n2⟩
  rw [je_333_248, c1, jk_cI, r1, jk_cI, if_pos rfl]
theorem lz_255 (hr : jk_rom rc) (C : CSt h σ) (R : RSt h σ) (A : AWt σ) (x3 : Int32) (o : lz_o rc x3) : lz_S rc h x3 255 := by
  obtain ⟨h1, h2, c1, r1, C2, R2, n1, n2⟩ := both (rc := rc) (kc := 10) (kr := 104) (as := [.ref 0]) (bs := [.ref 336]) (op := op_redo σ ) C R A
    (by obtain ⟨h', q, z⟩ := cc_redo (rc := rc) C A ; exact ⟨h', fun d => q (d + 3), z⟩)
    (fun g Rg => by obtain ⟨h', q, z⟩ := rr_redo (rc := rc) Rg A ; exact ⟨h', fun d => q (d + 3), z⟩) (aa_redo A )
  refine ⟨h2, _, fun d => ?_, C2, R2, aa_redo A , n1, n2⟩
  rw [je_333_255, c1, jk_cI, r1, jk_cI, if_pos rfl]
theorem lz_262 (hr : jk_rom rc) (C : CSt h σ) (R : RSt h σ) (A : AWt σ) (x3 : Int32) (o : lz_o rc x3) : lz_S rc h x3 262 := by
  obtain ⟨h1, h2, c1, r1, C2, R2, n1, n2⟩ := both (rc := rc) (kc := 11) (kr := 105) (as := [.ref 0, .int ((rc 0).2 ((x3 + (1 : Int32))).toNatClampNeg), .int ((rc 0).2 ((x3 + (2 : Int32))).toNatClampNeg)]) (bs := [.ref 336, .int ((rc 0).2 ((x3 + (1 : Int32))).toNatClampNeg), .int ((rc 0).2 ((x3 + (2 : Int32))).toNatClampNeg)]) (op := op_trail σ (((rc 0).2 ((x3 + (1 : Int32))).toNatClampNeg)) (((rc 0).2 ((x3 + (2 : Int32))).toNatClampNeg))) C R A
    (by obtain ⟨h', q, z⟩ := cc_trailq (rc := rc) C A (((rc 0).2 ((x3 + (1 : Int32))).toNatClampNeg)) (((rc 0).2 ((x3 + (2 : Int32))).toNatClampNeg)); exact ⟨h', fun d => q (d + 3), z⟩)
    (fun g Rg => by obtain ⟨h', q, z⟩ := rr_trail (rc := rc) Rg A (((rc 0).2 ((x3 + (1 : Int32))).toNatClampNeg)) (((rc 0).2 ((x3 + (2 : Int32))).toNatClampNeg)); exact ⟨h', fun d => q (d + 3), z⟩) (aa_trail A (((rc 0).2 ((x3 + (1 : Int32))).toNatClampNeg)) (((rc 0).2 ((x3 + (2 : Int32))).toNatClampNeg)))
  refine ⟨h2, _, fun d => ?_, C2, R2, aa_trail A (((rc 0).2 ((x3 + (1 : Int32))).toNatClampNeg)) (((rc 0).2 ((x3 + (2 : Int32))).toNatClampNeg)), n1, n2⟩
  rw [je_333_262, if_neg o.1, if_neg o.2.1, c1, jk_cI, if_neg o.1, if_neg o.2.1, r1, jk_cI, if_pos rfl]
theorem lz_289 (hr : jk_rom rc) (C : CSt h σ) (R : RSt h σ) (A : AWt σ) (x3 : Int32) (o : lz_o rc x3) : lz_S rc h x3 289 := by
  obtain ⟨h1, h2, c1, r1, C2, R2, n1, n2⟩ := both (rc := rc) (kc := 12) (kr := 106) (as := [.ref 0]) (bs := [.ref 336]) (op := op_factor σ ) C R A
    (by obtain ⟨h', q, z⟩ := cc_factor (rc := rc) C A ; exact ⟨h', fun d => q (d + 3), z⟩)
    (fun g Rg => by obtain ⟨h', q, z⟩ := rr_factor (rc := rc) Rg A ; exact ⟨h', fun d => q (d + 3), z⟩) (aa_factor A )
  refine ⟨h2, _, fun d => ?_, C2, R2, aa_factor A , n1, n2⟩
  rw [je_333_289, c1, jk_cI, r1, jk_cI, if_pos rfl]
theorem lz_296 (hr : jk_rom rc) (C : CSt h σ) (R : RSt h σ) (A : AWt σ) (x3 : Int32) (o : lz_o rc x3) : lz_S rc h x3 296 := by
  obtain ⟨h1, h2, c1, r1, C2, R2, n1, n2⟩ := both (rc := rc) (kc := 13) (kr := 120) (as := [.ref 0, .int ((rc 0).2 ((x3 + (1 : Int32))).toNatClampNeg)]) (bs := [.ref 336, .int ((rc 0).2 ((x3 + (1 : Int32))).toNatClampNeg)]) (op := op_minor σ (((rc 0).2 ((x3 + (1 : Int32))).toNatClampNeg))) C R A
    (by obtain ⟨h', q, z⟩ := cc_minor (rc := rc) C A (((rc 0).2 ((x3 + (1 : Int32))).toNatClampNeg)); exact ⟨h', fun d => q (d + 3), z⟩)
    (fun g Rg => by obtain ⟨h', q, z⟩ := rr_minor (rc := rc) Rg A (((rc 0).2 ((x3 + (1 : Int32))).toNatClampNeg)); exact ⟨h', fun d => q (d + 3), z⟩) (aa_minor A (((rc 0).2 ((x3 + (1 : Int32))).toNatClampNeg)))
  refine ⟨h2, _, fun d => ?_, C2, R2, aa_minor A (((rc 0).2 ((x3 + (1 : Int32))).toNatClampNeg)), n1, n2⟩
  rw [je_333_296, if_neg o.1, c1, jk_cI, if_neg o.1, r1, jk_cI, if_pos rfl]
theorem lz_313 (hr : jk_rom rc) (C : CSt h σ) (R : RSt h σ) (A : AWt σ) (x3 : Int32) (o : lz_o rc x3) : lz_S rc h x3 313 := by
  obtain ⟨h1, h2, c1, r1, C2, R2, n1, n2⟩ := both (rc := rc) (kc := 14) (kr := 121) (as := [.ref 0]) (bs := [.ref 336]) (op := op_det σ ) C R A
    (by obtain ⟨h', q, z⟩ := cc_det (rc := rc) C A ; exact ⟨h', fun d => q (d + 3), z⟩)
    (fun g Rg => by obtain ⟨h', q, z⟩ := rr_det (rc := rc) Rg A ; exact ⟨h', fun d => q (d + 3), z⟩) (aa_det A )
  refine ⟨h2, _, fun d => ?_, C2, R2, aa_det A , n1, n2⟩
  rw [je_333_313, c1, jk_cI, r1, jk_cI, if_pos rfl]
theorem lz_320 (hr : jk_rom rc) (C : CSt h σ) (R : RSt h σ) (A : AWt σ) (x3 : Int32) (o : lz_o rc x3) : lz_S rc h x3 320 := by
  obtain ⟨h1, h2, c1, r1, C2, R2, n1, n2⟩ := both (rc := rc) (kc := 15) (kr := 126) (as := [.ref 0, .int ((rc 0).2 ((x3 + (1 : Int32))).toNatClampNeg), .int ((rc 0).2 ((x3 + (2 : Int32))).toNatClampNeg), .int ((rc 0).2 ((x3 + (3 : Int32))).toNatClampNeg)]) (bs := [.ref 336, .int ((rc 0).2 ((x3 + (1 : Int32))).toNatClampNeg), .int ((rc 0).2 ((x3 + (2 : Int32))).toNatClampNeg), .int ((rc 0).2 ((x3 + (3 : Int32))).toNatClampNeg)]) (op := op_link σ (((rc 0).2 ((x3 + (1 : Int32))).toNatClampNeg)) (((rc 0).2 ((x3 + (2 : Int32))).toNatClampNeg)) (((rc 0).2 ((x3 + (3 : Int32))).toNatClampNeg))) C R A
    (by obtain ⟨h', q, z⟩ := cc_link (rc := rc) C A (((rc 0).2 ((x3 + (1 : Int32))).toNatClampNeg)) (((rc 0).2 ((x3 + (2 : Int32))).toNatClampNeg)) (((rc 0).2 ((x3 + (3 : Int32))).toNatClampNeg)); exact ⟨h', fun d => q (d + 3), z⟩)
    (fun g Rg => by obtain ⟨h', q, z⟩ := rr_link (rc := rc) Rg A (((rc 0).2 ((x3 + (1 : Int32))).toNatClampNeg)) (((rc 0).2 ((x3 + (2 : Int32))).toNatClampNeg)) (((rc 0).2 ((x3 + (3 : Int32))).toNatClampNeg)); exact ⟨h', fun d => q (d + 3), z⟩) (aa_link A (((rc 0).2 ((x3 + (1 : Int32))).toNatClampNeg)) (((rc 0).2 ((x3 + (2 : Int32))).toNatClampNeg)) (((rc 0).2 ((x3 + (3 : Int32))).toNatClampNeg)))
  refine ⟨h2, _, fun d => ?_, C2, R2, aa_link A (((rc 0).2 ((x3 + (1 : Int32))).toNatClampNeg)) (((rc 0).2 ((x3 + (2 : Int32))).toNatClampNeg)) (((rc 0).2 ((x3 + (3 : Int32))).toNatClampNeg)), n1, n2⟩
  rw [je_333_320, if_neg o.1, if_neg o.2.1, if_neg o.2.2.1, c1, jk_cI, if_neg o.1, if_neg o.2.1, if_neg o.2.2.1, r1, jk_cI, if_pos rfl]
theorem lz_357 (hr : jk_rom rc) (C : CSt h σ) (R : RSt h σ) (A : AWt σ) (x3 : Int32) (o : lz_o rc x3) : lz_S rc h x3 357 := by
  obtain ⟨h1, h2, c1, r1, C2, R2, n1, n2⟩ := both (rc := rc) (kc := 16) (kr := 131) (as := [.ref 0, .int ((rc 0).2 ((x3 + (1 : Int32))).toNatClampNeg)]) (bs := [.ref 336, .int ((rc 0).2 ((x3 + (1 : Int32))).toNatClampNeg)]) (op := op_inertia σ (((rc 0).2 ((x3 + (1 : Int32))).toNatClampNeg))) C R A
    (by obtain ⟨h', q, z⟩ := cc_inertia (rc := rc) C A (((rc 0).2 ((x3 + (1 : Int32))).toNatClampNeg)); exact ⟨h', fun d => q (d + 3), z⟩)
    (fun g Rg => by obtain ⟨h', q, z⟩ := rr_inertia (rc := rc) Rg A (((rc 0).2 ((x3 + (1 : Int32))).toNatClampNeg)); exact ⟨h', fun d => q (d + 3), z⟩) (aa_inertia A (((rc 0).2 ((x3 + (1 : Int32))).toNatClampNeg)))
  refine ⟨h2, _, fun d => ?_, C2, R2, aa_inertia A (((rc 0).2 ((x3 + (1 : Int32))).toNatClampNeg)), n1, n2⟩
  rw [je_333_357, if_neg o.1, c1, jk_cI, if_neg o.1, r1, jk_cI, if_pos rfl]
theorem lz_374 (hr : jk_rom rc) (C : CSt h σ) (R : RSt h σ) (A : AWt σ) (x3 : Int32) (o : lz_o rc x3) : lz_S rc h x3 374 := by
  obtain ⟨h1, h2, c1, r1, C2, R2, n1, n2⟩ := both (rc := rc) (kc := 17) (kr := 136) (as := [.ref 0, .int ((rc 0).2 ((x3 + (1 : Int32))).toNatClampNeg)]) (bs := [.ref 336, .int ((rc 0).2 ((x3 + (1 : Int32))).toNatClampNeg)]) (op := op_kernel σ (((rc 0).2 ((x3 + (1 : Int32))).toNatClampNeg))) C R A
    (by obtain ⟨h', q, z⟩ := cc_kernel (rc := rc) C A (((rc 0).2 ((x3 + (1 : Int32))).toNatClampNeg)); exact ⟨h', fun d => q (d + 3), z⟩)
    (fun g Rg => by obtain ⟨h', q, z⟩ := rr_kernel (rc := rc) Rg A (((rc 0).2 ((x3 + (1 : Int32))).toNatClampNeg)); exact ⟨h', fun d => q (d + 3), z⟩) (aa_kernel A (((rc 0).2 ((x3 + (1 : Int32))).toNatClampNeg)))
  refine ⟨h2, _, fun d => ?_, C2, R2, aa_kernel A (((rc 0).2 ((x3 + (1 : Int32))).toNatClampNeg)), n1, n2⟩
  rw [je_333_374, if_neg o.1, c1, jk_cI, if_neg o.1, r1, jk_cI, if_pos rfl]
theorem lz_391 (hr : jk_rom rc) (C : CSt h σ) (R : RSt h σ) (A : AWt σ) (x3 : Int32) (o : lz_o rc x3) : lz_S rc h x3 391 := by
  obtain ⟨h1, h2, c1, r1, C2, R2, n1, n2⟩ := both (rc := rc) (kc := 18) (kr := 140) (as := [.ref 0, .int ((rc 0).2 ((x3 + (1 : Int32))).toNatClampNeg)]) (bs := [.ref 336, .int ((rc 0).2 ((x3 + (1 : Int32))).toNatClampNeg)]) (op := op_wu σ (((rc 0).2 ((x3 + (1 : Int32))).toNatClampNeg))) C R A
    (by obtain ⟨h', q, z⟩ := cc_wu (rc := rc) C A (((rc 0).2 ((x3 + (1 : Int32))).toNatClampNeg)); exact ⟨h', fun d => q (d + 3), z⟩)
    (fun g Rg => by obtain ⟨h', q, z⟩ := rr_wu (rc := rc) Rg A (((rc 0).2 ((x3 + (1 : Int32))).toNatClampNeg)); exact ⟨h', fun d => q (d + 3), z⟩) (aa_wu A (((rc 0).2 ((x3 + (1 : Int32))).toNatClampNeg)))
  refine ⟨h2, _, fun d => ?_, C2, R2, aa_wu A (((rc 0).2 ((x3 + (1 : Int32))).toNatClampNeg)), n1, n2⟩
  rw [je_333_391, if_neg o.1, c1, jk_cI, if_neg o.1, r1, jk_cI, if_pos rfl]
theorem lz_408 (hr : jk_rom rc) (C : CSt h σ) (R : RSt h σ) (A : AWt σ) (x3 : Int32) (o : lz_o rc x3) : lz_S rc h x3 408 := by
  obtain ⟨h1, h2, c1, r1, C2, R2, n1, n2⟩ := both (rc := rc) (kc := 19) (kr := 141) (as := [.ref 0]) (bs := [.ref 336]) (op := op_mu σ ) C R A
    (by obtain ⟨h', q, z⟩ := cc_mu (rc := rc) C A ; exact ⟨h', fun d => q (d + 3), z⟩)
    (fun g Rg => by obtain ⟨h', q, z⟩ := rr_mu (rc := rc) Rg A ; exact ⟨h', fun d => q (d + 3), z⟩) (aa_mu A )
  refine ⟨h2, _, fun d => ?_, C2, R2, aa_mu A , n1, n2⟩
  rw [je_333_408, c1, jk_cI, r1, jk_cI, if_pos rfl]
theorem lz_415 (hr : jk_rom rc) (C : CSt h σ) (R : RSt h σ) (A : AWt σ) (x3 : Int32) (o : lz_o rc x3) : lz_S rc h x3 415 := by
  obtain ⟨h1, h2, c1, r1, C2, R2, n1, n2⟩ := both (rc := rc) (kc := 20) (kr := 143) (as := [.ref 0, .int ((rc 0).2 ((x3 + (1 : Int32))).toNatClampNeg), .int ((rc 0).2 ((x3 + (2 : Int32))).toNatClampNeg), .int ((rc 0).2 ((x3 + (3 : Int32))).toNatClampNeg)]) (bs := [.ref 336, .int ((rc 0).2 ((x3 + (1 : Int32))).toNatClampNeg), .int ((rc 0).2 ((x3 + (2 : Int32))).toNatClampNeg), .int ((rc 0).2 ((x3 + (3 : Int32))).toNatClampNeg)]) (op := op_fraction σ (((rc 0).2 ((x3 + (1 : Int32))).toNatClampNeg)) (((rc 0).2 ((x3 + (2 : Int32))).toNatClampNeg)) (((rc 0).2 ((x3 + (3 : Int32))).toNatClampNeg))) C R A
    (by obtain ⟨h', q, z⟩ := cc_fraction (rc := rc) C A (((rc 0).2 ((x3 + (1 : Int32))).toNatClampNeg)) (((rc 0).2 ((x3 + (2 : Int32))).toNatClampNeg)) (((rc 0).2 ((x3 + (3 : Int32))).toNatClampNeg)); exact ⟨h', fun d => q (d + 3), z⟩)
    (fun g Rg => by obtain ⟨h', q, z⟩ := rr_fraction (rc := rc) Rg A (((rc 0).2 ((x3 + (1 : Int32))).toNatClampNeg)) (((rc 0).2 ((x3 + (2 : Int32))).toNatClampNeg)) (((rc 0).2 ((x3 + (3 : Int32))).toNatClampNeg)); exact ⟨h', fun d => q (d + 3), z⟩) (aa_fraction A (((rc 0).2 ((x3 + (1 : Int32))).toNatClampNeg)) (((rc 0).2 ((x3 + (2 : Int32))).toNatClampNeg)) (((rc 0).2 ((x3 + (3 : Int32))).toNatClampNeg)))
  refine ⟨h2, _, fun d => ?_, C2, R2, aa_fraction A (((rc 0).2 ((x3 + (1 : Int32))).toNatClampNeg)) (((rc 0).2 ((x3 + (2 : Int32))).toNatClampNeg)) (((rc 0).2 ((x3 + (3 : Int32))).toNatClampNeg)), n1, n2⟩
  rw [je_333_415, if_neg o.1, if_neg o.2.1, if_neg o.2.2.1, c1, jk_cI, if_neg o.1, if_neg o.2.1, if_neg o.2.2.1, r1, jk_cI, if_pos rfl]
theorem lz_452 (hr : jk_rom rc) (C : CSt h σ) (R : RSt h σ) (A : AWt σ) (x3 : Int32) (o : lz_o rc x3) : lz_S rc h x3 452 := by
  obtain ⟨h1, h2, c1, r1, C2, R2, n1, n2⟩ := both (rc := rc) (kc := 21) (kr := 148) (as := [.ref 0, .int ((rc 0).2 ((x3 + (1 : Int32))).toNatClampNeg), .int ((rc 0).2 ((x3 + (2 : Int32))).toNatClampNeg)]) (bs := [.ref 336, .int ((rc 0).2 ((x3 + (1 : Int32))).toNatClampNeg), .int ((rc 0).2 ((x3 + (2 : Int32))).toNatClampNeg)]) (op := op_room σ (((rc 0).2 ((x3 + (1 : Int32))).toNatClampNeg)) (((rc 0).2 ((x3 + (2 : Int32))).toNatClampNeg))) C R A
    (by obtain ⟨h', q, z⟩ := cc_room (rc := rc) C A (((rc 0).2 ((x3 + (1 : Int32))).toNatClampNeg)) (((rc 0).2 ((x3 + (2 : Int32))).toNatClampNeg)); exact ⟨h', fun d => q (d + 3), z⟩)
    (fun g Rg => by obtain ⟨h', q, z⟩ := rr_room (rc := rc) Rg A (((rc 0).2 ((x3 + (1 : Int32))).toNatClampNeg)) (((rc 0).2 ((x3 + (2 : Int32))).toNatClampNeg)); exact ⟨h', fun d => q (d + 3), z⟩) (aa_room A (((rc 0).2 ((x3 + (1 : Int32))).toNatClampNeg)) (((rc 0).2 ((x3 + (2 : Int32))).toNatClampNeg)))
  refine ⟨h2, _, fun d => ?_, C2, R2, aa_room A (((rc 0).2 ((x3 + (1 : Int32))).toNatClampNeg)) (((rc 0).2 ((x3 + (2 : Int32))).toNatClampNeg)), n1, n2⟩
  rw [je_333_452, if_neg o.1, if_neg o.2.1, c1, jk_cI, if_neg o.1, if_neg o.2.1, r1, jk_cI, if_pos rfl]
theorem lz_479 (hr : jk_rom rc) (C : CSt h σ) (R : RSt h σ) (A : AWt σ) (x3 : Int32) (o : lz_o rc x3) : lz_S rc h x3 479 := by
  obtain ⟨h1, h2, c1, r1, C2, R2, n1, n2⟩ := both (rc := rc) (kc := 22) (kr := 149) (as := [.ref 0, .int ((rc 0).2 ((x3 + (1 : Int32))).toNatClampNeg), .int ((rc 0).2 ((x3 + (2 : Int32))).toNatClampNeg)]) (bs := [.ref 336, .int ((rc 0).2 ((x3 + (1 : Int32))).toNatClampNeg), .int ((rc 0).2 ((x3 + (2 : Int32))).toNatClampNeg)]) (op := op_oneRoom σ (((rc 0).2 ((x3 + (1 : Int32))).toNatClampNeg)) (((rc 0).2 ((x3 + (2 : Int32))).toNatClampNeg))) C R A
    (by obtain ⟨h', q, z⟩ := cc_oneRoom (rc := rc) C A (((rc 0).2 ((x3 + (1 : Int32))).toNatClampNeg)) (((rc 0).2 ((x3 + (2 : Int32))).toNatClampNeg)); exact ⟨h', fun d => q (d + 3), z⟩)
    (fun g Rg => by obtain ⟨h', q, z⟩ := rr_oneRoom (rc := rc) Rg A (((rc 0).2 ((x3 + (1 : Int32))).toNatClampNeg)) (((rc 0).2 ((x3 + (2 : Int32))).toNatClampNeg)); exact ⟨h', fun d => q (d + 3), z⟩) (aa_oneRoom A (((rc 0).2 ((x3 + (1 : Int32))).toNatClampNeg)) (((rc 0).2 ((x3 + (2 : Int32))).toNatClampNeg)))
  refine ⟨h2, _, fun d => ?_, C2, R2, aa_oneRoom A (((rc 0).2 ((x3 + (1 : Int32))).toNatClampNeg)) (((rc 0).2 ((x3 + (2 : Int32))).toNatClampNeg)), n1, n2⟩
  rw [je_333_479, if_neg o.1, if_neg o.2.1, c1, jk_cI, if_neg o.1, if_neg o.2.1, r1, jk_cI, if_pos rfl]
theorem lz_506 (hr : jk_rom rc) (C : CSt h σ) (R : RSt h σ) (A : AWt σ) (x3 : Int32) (o : lz_o rc x3) : lz_S rc h x3 506 := by
  obtain ⟨h1, h2, c1, r1, C2, R2, n1, n2⟩ := both (rc := rc) (kc := 23) (kr := 152) (as := [.ref 0, .int ((rc 0).2 ((x3 + (1 : Int32))).toNatClampNeg), .int ((rc 0).2 ((x3 + (2 : Int32))).toNatClampNeg), .int ((rc 0).2 ((x3 + (3 : Int32))).toNatClampNeg)]) (bs := [.ref 336, .int ((rc 0).2 ((x3 + (1 : Int32))).toNatClampNeg), .int ((rc 0).2 ((x3 + (2 : Int32))).toNatClampNeg), .int ((rc 0).2 ((x3 + (3 : Int32))).toNatClampNeg)]) (op := op_chain σ (((rc 0).2 ((x3 + (1 : Int32))).toNatClampNeg)) (((rc 0).2 ((x3 + (2 : Int32))).toNatClampNeg)) (((rc 0).2 ((x3 + (3 : Int32))).toNatClampNeg))) C R A
    (by obtain ⟨h', q, z⟩ := cc_chain (rc := rc) C A (((rc 0).2 ((x3 + (1 : Int32))).toNatClampNeg)) (((rc 0).2 ((x3 + (2 : Int32))).toNatClampNeg)) (((rc 0).2 ((x3 + (3 : Int32))).toNatClampNeg)); exact ⟨h', fun d => q (d + 3), z⟩)
    (fun g Rg => by obtain ⟨h', q, z⟩ := rr_chain (rc := rc) Rg A (((rc 0).2 ((x3 + (1 : Int32))).toNatClampNeg)) (((rc 0).2 ((x3 + (2 : Int32))).toNatClampNeg)) (((rc 0).2 ((x3 + (3 : Int32))).toNatClampNeg)); exact ⟨h', fun d => q (d + 3), z⟩) (aa_chain A (((rc 0).2 ((x3 + (1 : Int32))).toNatClampNeg)) (((rc 0).2 ((x3 + (2 : Int32))).toNatClampNeg)) (((rc 0).2 ((x3 + (3 : Int32))).toNatClampNeg)))
  refine ⟨h2, _, fun d => ?_, C2, R2, aa_chain A (((rc 0).2 ((x3 + (1 : Int32))).toNatClampNeg)) (((rc 0).2 ((x3 + (2 : Int32))).toNatClampNeg)) (((rc 0).2 ((x3 + (3 : Int32))).toNatClampNeg)), n1, n2⟩
  rw [je_333_506, if_neg o.1, if_neg o.2.1, if_neg o.2.2.1, c1, jk_cI, if_neg o.1, if_neg o.2.1, if_neg o.2.2.1, r1, jk_cI, if_pos rfl]
theorem lz_543 (hr : jk_rom rc) (C : CSt h σ) (R : RSt h σ) (A : AWt σ) (x3 : Int32) (o : lz_o rc x3) : lz_S rc h x3 543 := by
  obtain ⟨h1, h2, c1, r1, C2, R2, n1, n2⟩ := both (rc := rc) (kc := 24) (kr := 153) (as := [.ref 0, .int ((rc 0).2 ((x3 + (1 : Int32))).toNatClampNeg), .int ((rc 0).2 ((x3 + (2 : Int32))).toNatClampNeg)]) (bs := [.ref 336, .int ((rc 0).2 ((x3 + (1 : Int32))).toNatClampNeg), .int ((rc 0).2 ((x3 + (2 : Int32))).toNatClampNeg)]) (op := op_plant σ (((rc 0).2 ((x3 + (1 : Int32))).toNatClampNeg)) (((rc 0).2 ((x3 + (2 : Int32))).toNatClampNeg))) C R A
    (by obtain ⟨h', q, z⟩ := cc_plant (rc := rc) C A (((rc 0).2 ((x3 + (1 : Int32))).toNatClampNeg)) (((rc 0).2 ((x3 + (2 : Int32))).toNatClampNeg)); exact ⟨h', fun d => q (d + 3), z⟩)
    (fun g Rg => by obtain ⟨h', q, z⟩ := rr_plant (rc := rc) Rg A (((rc 0).2 ((x3 + (1 : Int32))).toNatClampNeg)) (((rc 0).2 ((x3 + (2 : Int32))).toNatClampNeg)); exact ⟨h', fun d => q (d + 3), z⟩) (aa_plant A (((rc 0).2 ((x3 + (1 : Int32))).toNatClampNeg)) (((rc 0).2 ((x3 + (2 : Int32))).toNatClampNeg)))
  refine ⟨h2, _, fun d => ?_, C2, R2, aa_plant A (((rc 0).2 ((x3 + (1 : Int32))).toNatClampNeg)) (((rc 0).2 ((x3 + (2 : Int32))).toNatClampNeg)), n1, n2⟩
  rw [je_333_543, if_neg o.1, if_neg o.2.1, c1, jk_cI, if_neg o.1, if_neg o.2.1, r1, jk_cI, if_pos rfl]
theorem lz_570 (hr : jk_rom rc) (C : CSt h σ) (R : RSt h σ) (A : AWt σ) (x3 : Int32) (o : lz_o rc x3) : lz_S rc h x3 570 := by
  obtain ⟨h1, h2, c1, r1, C2, R2, n1, n2⟩ := both (rc := rc) (kc := 25) (kr := 154) (as := [.ref 0, .long (((((rc 0).2 ((x3 + (1 : Int32))).toNatClampNeg)).toInt64 <<< (((32 : Int32)).toInt64 &&& 63)) ||| ((((rc 0).2 ((x3 + (2 : Int32))).toNatClampNeg)).toInt64 &&& (4294967295 : Int64))), .int ((rc 0).2 ((x3 + (3 : Int32))).toNatClampNeg)]) (bs := [.ref 336, .long (((((rc 0).2 ((x3 + (1 : Int32))).toNatClampNeg)).toInt64 <<< (((32 : Int32)).toInt64 &&& 63)) ||| ((((rc 0).2 ((x3 + (2 : Int32))).toNatClampNeg)).toInt64 &&& (4294967295 : Int64))), .int ((rc 0).2 ((x3 + (3 : Int32))).toNatClampNeg)]) (op := op_feed σ ((((((rc 0).2 ((x3 + (1 : Int32))).toNatClampNeg)).toInt64 <<< (((32 : Int32)).toInt64 &&& 63)) ||| ((((rc 0).2 ((x3 + (2 : Int32))).toNatClampNeg)).toInt64 &&& (4294967295 : Int64)))) (((rc 0).2 ((x3 + (3 : Int32))).toNatClampNeg))) C R A
    (by obtain ⟨h', q, z⟩ := cc_feed (rc := rc) C A ((((((rc 0).2 ((x3 + (1 : Int32))).toNatClampNeg)).toInt64 <<< (((32 : Int32)).toInt64 &&& 63)) ||| ((((rc 0).2 ((x3 + (2 : Int32))).toNatClampNeg)).toInt64 &&& (4294967295 : Int64)))) (((rc 0).2 ((x3 + (3 : Int32))).toNatClampNeg)); exact ⟨h', fun d => q (d + 3), z⟩)
    (fun g Rg => by obtain ⟨h', q, z⟩ := rr_feed (rc := rc) Rg A ((((((rc 0).2 ((x3 + (1 : Int32))).toNatClampNeg)).toInt64 <<< (((32 : Int32)).toInt64 &&& 63)) ||| ((((rc 0).2 ((x3 + (2 : Int32))).toNatClampNeg)).toInt64 &&& (4294967295 : Int64)))) (((rc 0).2 ((x3 + (3 : Int32))).toNatClampNeg)); exact ⟨h', fun d => q (d + 3), z⟩) (aa_feed A ((((((rc 0).2 ((x3 + (1 : Int32))).toNatClampNeg)).toInt64 <<< (((32 : Int32)).toInt64 &&& 63)) ||| ((((rc 0).2 ((x3 + (2 : Int32))).toNatClampNeg)).toInt64 &&& (4294967295 : Int64)))) (((rc 0).2 ((x3 + (3 : Int32))).toNatClampNeg)))
  refine ⟨h2, _, fun d => ?_, C2, R2, aa_feed A ((((((rc 0).2 ((x3 + (1 : Int32))).toNatClampNeg)).toInt64 <<< (((32 : Int32)).toInt64 &&& 63)) ||| ((((rc 0).2 ((x3 + (2 : Int32))).toNatClampNeg)).toInt64 &&& (4294967295 : Int64)))) (((rc 0).2 ((x3 + (3 : Int32))).toNatClampNeg)), n1, n2⟩
  rw [je_333_570, if_neg o.1, if_neg o.2.1, if_neg o.2.2.1, c1, jk_cI, if_neg o.1, if_neg o.2.1, if_neg o.2.2.1, r1, jk_cI, if_pos rfl]
theorem lz_621 (hr : jk_rom rc) (C : CSt h σ) (R : RSt h σ) (A : AWt σ) (x3 : Int32) (o : lz_o rc x3) : lz_S rc h x3 621 := by
  obtain ⟨h1, h2, c1, r1, C2, R2, n1, n2⟩ := both (rc := rc) (kc := 26) (kr := 161) (as := [.ref 0]) (bs := [.ref 336]) (op := op_forest σ ) C R A
    (by obtain ⟨h', q, z⟩ := cc_forest (rc := rc) C A ; exact ⟨h', fun d => q (d + 3), z⟩)
    (fun g Rg => by obtain ⟨h', q, z⟩ := rr_forest (rc := rc) Rg A ; exact ⟨h', fun d => q (d + 3), z⟩) (aa_forest A )
  refine ⟨h2, _, fun d => ?_, C2, R2, aa_forest A , n1, n2⟩
  rw [je_333_621, c1, jk_cI, r1, jk_cI, if_pos rfl]
theorem lz_628 (hr : jk_rom rc) (C : CSt h σ) (R : RSt h σ) (A : AWt σ) (x3 : Int32) (o : lz_o rc x3) : lz_S rc h x3 628 := by
  obtain ⟨h1, h2, c1, r1, C2, R2, n1, n2⟩ := both (rc := rc) (kc := 27) (kr := 167) (as := [.ref 0, .int ((rc 0).2 ((x3 + (1 : Int32))).toNatClampNeg)]) (bs := [.ref 336, .int ((rc 0).2 ((x3 + (1 : Int32))).toNatClampNeg)]) (op := op_least σ (((rc 0).2 ((x3 + (1 : Int32))).toNatClampNeg))) C R A
    (by obtain ⟨h', q, z⟩ := cc_least (rc := rc) C A (((rc 0).2 ((x3 + (1 : Int32))).toNatClampNeg)); exact ⟨h', fun d => q (d + 3), z⟩)
    (fun g Rg => by obtain ⟨h', q, z⟩ := rr_least (rc := rc) Rg A (((rc 0).2 ((x3 + (1 : Int32))).toNatClampNeg)); exact ⟨h', fun d => q (d + 3), z⟩) (aa_least A (((rc 0).2 ((x3 + (1 : Int32))).toNatClampNeg)))
  refine ⟨h2, _, fun d => ?_, C2, R2, aa_least A (((rc 0).2 ((x3 + (1 : Int32))).toNatClampNeg)), n1, n2⟩
  rw [je_333_628, if_neg o.1, c1, jk_cI, if_neg o.1, r1, jk_cI, if_pos rfl]
theorem lz_645 (hr : jk_rom rc) (C : CSt h σ) (R : RSt h σ) (A : AWt σ) (x3 : Int32) (o : lz_o rc x3) : lz_S rc h x3 645 := by
  obtain ⟨h1, h2, c1, r1, C2, R2, n1, n2⟩ := both (rc := rc) (kc := 28) (kr := 169) (as := [.ref 0, .int ((rc 0).2 ((x3 + (1 : Int32))).toNatClampNeg)]) (bs := [.ref 336, .int ((rc 0).2 ((x3 + (1 : Int32))).toNatClampNeg)]) (op := op_keep σ (((rc 0).2 ((x3 + (1 : Int32))).toNatClampNeg))) C R A
    (by obtain ⟨h', q, z⟩ := cc_keep (rc := rc) C A (((rc 0).2 ((x3 + (1 : Int32))).toNatClampNeg)); exact ⟨h', fun d => q (d + 3), z⟩)
    (fun g Rg => by obtain ⟨h', q, z⟩ := rr_keep (rc := rc) Rg A (((rc 0).2 ((x3 + (1 : Int32))).toNatClampNeg)); exact ⟨h', fun d => q (d + 3), z⟩) (aa_keep A (((rc 0).2 ((x3 + (1 : Int32))).toNatClampNeg)))
  refine ⟨h2, _, fun d => ?_, C2, R2, aa_keep A (((rc 0).2 ((x3 + (1 : Int32))).toNatClampNeg)), n1, n2⟩
  rw [je_333_645, if_neg o.1, c1, jk_cI, if_neg o.1, r1, jk_cI, if_pos rfl]
theorem lz_662 (hr : jk_rom rc) (C : CSt h σ) (R : RSt h σ) (A : AWt σ) (x3 : Int32) (o : lz_o rc x3) : lz_S rc h x3 662 := by
  obtain ⟨h1, h2, c1, r1, C2, R2, n1, n2⟩ := both (rc := rc) (kc := 29) (kr := 170) (as := [.ref 0, .int ((rc 0).2 ((x3 + (1 : Int32))).toNatClampNeg)]) (bs := [.ref 336, .int ((rc 0).2 ((x3 + (1 : Int32))).toNatClampNeg)]) (op := op_fetch σ (((rc 0).2 ((x3 + (1 : Int32))).toNatClampNeg))) C R A
    (by obtain ⟨h', q, z⟩ := cc_fetch (rc := rc) C A (((rc 0).2 ((x3 + (1 : Int32))).toNatClampNeg)); exact ⟨h', fun d => q (d + 3), z⟩)
    (fun g Rg => by obtain ⟨h', q, z⟩ := rr_fetch (rc := rc) Rg A (((rc 0).2 ((x3 + (1 : Int32))).toNatClampNeg)); exact ⟨h', fun d => q (d + 3), z⟩) (aa_fetch A (((rc 0).2 ((x3 + (1 : Int32))).toNatClampNeg)))
  refine ⟨h2, _, fun d => ?_, C2, R2, aa_fetch A (((rc 0).2 ((x3 + (1 : Int32))).toNatClampNeg)), n1, n2⟩
  rw [je_333_662, if_neg o.1, c1, jk_cI, if_neg o.1, r1, jk_cI, if_pos rfl]
theorem lz_679 (hr : jk_rom rc) (C : CSt h σ) (R : RSt h σ) (A : AWt σ) (x3 : Int32) (o : lz_o rc x3) : lz_S rc h x3 679 := by
  obtain ⟨h1, h2, c1, r1, C2, R2, n1, n2⟩ := both (rc := rc) (kc := 30) (kr := 171) (as := [.ref 0, .int ((rc 0).2 ((x3 + (1 : Int32))).toNatClampNeg)]) (bs := [.ref 336, .int ((rc 0).2 ((x3 + (1 : Int32))).toNatClampNeg)]) (op := op_drop σ (((rc 0).2 ((x3 + (1 : Int32))).toNatClampNeg))) C R A
    (by obtain ⟨h', q, z⟩ := cc_drop (rc := rc) C A (((rc 0).2 ((x3 + (1 : Int32))).toNatClampNeg)); exact ⟨h', fun d => q (d + 3), z⟩)
    (fun g Rg => by obtain ⟨h', q, z⟩ := rr_drop (rc := rc) Rg A (((rc 0).2 ((x3 + (1 : Int32))).toNatClampNeg)); exact ⟨h', fun d => q (d + 3), z⟩) (aa_drop A (((rc 0).2 ((x3 + (1 : Int32))).toNatClampNeg)))
  refine ⟨h2, _, fun d => ?_, C2, R2, aa_drop A (((rc 0).2 ((x3 + (1 : Int32))).toNatClampNeg)), n1, n2⟩
  rw [je_333_679, if_neg o.1, c1, jk_cI, if_neg o.1, r1, jk_cI, if_pos rfl]
theorem lz_696 (hr : jk_rom rc) (C : CSt h σ) (R : RSt h σ) (A : AWt σ) (x3 : Int32) (o : lz_o rc x3) : lz_S rc h x3 696 := by
  obtain ⟨h1, h2, c1, r1, C2, R2, n1, n2⟩ := both (rc := rc) (kc := 31) (kr := 174) (as := [.ref 0, .int ((rc 0).2 ((x3 + (1 : Int32))).toNatClampNeg)]) (bs := [.ref 336, .int ((rc 0).2 ((x3 + (1 : Int32))).toNatClampNeg)]) (op := op_alike σ (((rc 0).2 ((x3 + (1 : Int32))).toNatClampNeg))) C R A
    (by obtain ⟨h', q, z⟩ := cc_alike (rc := rc) C A (((rc 0).2 ((x3 + (1 : Int32))).toNatClampNeg)); exact ⟨h', fun d => q (d + 3), z⟩)
    (fun g Rg => by obtain ⟨h', q, z⟩ := rr_alike (rc := rc) Rg A (((rc 0).2 ((x3 + (1 : Int32))).toNatClampNeg)); exact ⟨h', fun d => q (d + 3), z⟩) (aa_alike A (((rc 0).2 ((x3 + (1 : Int32))).toNatClampNeg)))
  refine ⟨h2, _, fun d => ?_, C2, R2, aa_alike A (((rc 0).2 ((x3 + (1 : Int32))).toNatClampNeg)), n1, n2⟩
  rw [je_333_696, if_neg o.1, c1, jk_cI, if_neg o.1, r1, jk_cI, if_pos rfl]
theorem lz_713 (hr : jk_rom rc) (C : CSt h σ) (R : RSt h σ) (A : AWt σ) (x3 : Int32) (o : lz_o rc x3) : lz_S rc h x3 713 := by
  obtain ⟨h1, h2, c1, r1, C2, R2, n1, n2⟩ := both (rc := rc) (kc := 32) (kr := 176) (as := [.ref 0, .int ((rc 0).2 ((x3 + (1 : Int32))).toNatClampNeg), .int ((rc 0).2 ((x3 + (2 : Int32))).toNatClampNeg)]) (bs := [.ref 336, .int ((rc 0).2 ((x3 + (1 : Int32))).toNatClampNeg), .int ((rc 0).2 ((x3 + (2 : Int32))).toNatClampNeg)]) (op := op_worker σ (((rc 0).2 ((x3 + (1 : Int32))).toNatClampNeg)) (((rc 0).2 ((x3 + (2 : Int32))).toNatClampNeg))) C R A
    (by obtain ⟨h', q, z⟩ := cc_worker (rc := rc) C A (((rc 0).2 ((x3 + (1 : Int32))).toNatClampNeg)) (((rc 0).2 ((x3 + (2 : Int32))).toNatClampNeg)); exact ⟨h', fun d => q (d + 3), z⟩)
    (fun g Rg => by obtain ⟨h', q, z⟩ := rr_worker (rc := rc) Rg A (((rc 0).2 ((x3 + (1 : Int32))).toNatClampNeg)) (((rc 0).2 ((x3 + (2 : Int32))).toNatClampNeg)); exact ⟨h', fun d => q (d + 3), z⟩) (aa_worker A (((rc 0).2 ((x3 + (1 : Int32))).toNatClampNeg)) (((rc 0).2 ((x3 + (2 : Int32))).toNatClampNeg)))
  refine ⟨h2, _, fun d => ?_, C2, R2, aa_worker A (((rc 0).2 ((x3 + (1 : Int32))).toNatClampNeg)) (((rc 0).2 ((x3 + (2 : Int32))).toNatClampNeg)), n1, n2⟩
  rw [je_333_713, if_neg o.1, if_neg o.2.1, c1, jk_cI, if_neg o.1, if_neg o.2.1, r1, jk_cI, if_pos rfl]
theorem lz_740 (hr : jk_rom rc) (C : CSt h σ) (R : RSt h σ) (A : AWt σ) (x3 : Int32) (o : lz_o rc x3) : lz_S rc h x3 740 := by
  obtain ⟨h1, h2, c1, r1, C2, R2, n1, n2⟩ := both (rc := rc) (kc := 33) (kr := 178) (as := [.ref 0, .int ((rc 0).2 ((x3 + (1 : Int32))).toNatClampNeg), .int ((rc 0).2 ((x3 + (2 : Int32))).toNatClampNeg)]) (bs := [.ref 336, .int ((rc 0).2 ((x3 + (1 : Int32))).toNatClampNeg), .int ((rc 0).2 ((x3 + (2 : Int32))).toNatClampNeg)]) (op := op_workerIs σ (((rc 0).2 ((x3 + (1 : Int32))).toNatClampNeg)) (((rc 0).2 ((x3 + (2 : Int32))).toNatClampNeg))) C R A
    (by obtain ⟨h', q, z⟩ := cc_workerIs (rc := rc) C A (((rc 0).2 ((x3 + (1 : Int32))).toNatClampNeg)) (((rc 0).2 ((x3 + (2 : Int32))).toNatClampNeg)); exact ⟨h', fun d => q (d + 3), z⟩)
    (fun g Rg => by obtain ⟨h', q, z⟩ := rr_workerIs (rc := rc) Rg A (((rc 0).2 ((x3 + (1 : Int32))).toNatClampNeg)) (((rc 0).2 ((x3 + (2 : Int32))).toNatClampNeg)); exact ⟨h', fun d => q (d + 3), z⟩) (aa_workerIs A (((rc 0).2 ((x3 + (1 : Int32))).toNatClampNeg)) (((rc 0).2 ((x3 + (2 : Int32))).toNatClampNeg)))
  refine ⟨h2, _, fun d => ?_, C2, R2, aa_workerIs A (((rc 0).2 ((x3 + (1 : Int32))).toNatClampNeg)) (((rc 0).2 ((x3 + (2 : Int32))).toNatClampNeg)), n1, n2⟩
  rw [je_333_740, if_neg o.1, if_neg o.2.1, c1, jk_cI, if_neg o.1, if_neg o.2.1, r1, jk_cI, if_pos rfl]
theorem lz_767 (hr : jk_rom rc) (C : CSt h σ) (R : RSt h σ) (A : AWt σ) (x3 : Int32) (o : lz_o rc x3) : lz_S rc h x3 767 := by
  obtain ⟨h1, h2, c1, r1, C2, R2, n1, n2⟩ := both (rc := rc) (kc := 34) (kr := 179) (as := [.ref 0, .int ((rc 0).2 ((x3 + (1 : Int32))).toNatClampNeg), .int ((rc 0).2 ((x3 + (2 : Int32))).toNatClampNeg)]) (bs := [.ref 336, .int ((rc 0).2 ((x3 + (1 : Int32))).toNatClampNeg), .int ((rc 0).2 ((x3 + (2 : Int32))).toNatClampNeg)]) (op := op_become σ (((rc 0).2 ((x3 + (1 : Int32))).toNatClampNeg)) (((rc 0).2 ((x3 + (2 : Int32))).toNatClampNeg))) C R A
    (by obtain ⟨h', q, z⟩ := cc_become (rc := rc) C A (((rc 0).2 ((x3 + (1 : Int32))).toNatClampNeg)) (((rc 0).2 ((x3 + (2 : Int32))).toNatClampNeg)); exact ⟨h', fun d => q (d + 3), z⟩)
    (fun g Rg => by obtain ⟨h', q, z⟩ := rr_become (rc := rc) Rg A (((rc 0).2 ((x3 + (1 : Int32))).toNatClampNeg)) (((rc 0).2 ((x3 + (2 : Int32))).toNatClampNeg)); exact ⟨h', fun d => q (d + 3), z⟩) (aa_become A (((rc 0).2 ((x3 + (1 : Int32))).toNatClampNeg)) (((rc 0).2 ((x3 + (2 : Int32))).toNatClampNeg)))
  refine ⟨h2, _, fun d => ?_, C2, R2, aa_become A (((rc 0).2 ((x3 + (1 : Int32))).toNatClampNeg)) (((rc 0).2 ((x3 + (2 : Int32))).toNatClampNeg)), n1, n2⟩
  rw [je_333_767, if_neg o.1, if_neg o.2.1, c1, jk_cI, if_neg o.1, if_neg o.2.1, r1, jk_cI, if_pos rfl]
theorem lz_794 (hr : jk_rom rc) (C : CSt h σ) (R : RSt h σ) (A : AWt σ) (x3 : Int32) (o : lz_o rc x3) : lz_S rc h x3 794 := by
  obtain ⟨h1, h2, c1, r1, C2, R2, n1, n2⟩ := both (rc := rc) (kc := 35) (kr := 180) (as := [.ref 0, .int ((rc 0).2 ((x3 + (1 : Int32))).toNatClampNeg), .int ((rc 0).2 ((x3 + (2 : Int32))).toNatClampNeg)]) (bs := [.ref 336, .int ((rc 0).2 ((x3 + (1 : Int32))).toNatClampNeg), .int ((rc 0).2 ((x3 + (2 : Int32))).toNatClampNeg)]) (op := op_as σ (((rc 0).2 ((x3 + (1 : Int32))).toNatClampNeg)) (((rc 0).2 ((x3 + (2 : Int32))).toNatClampNeg))) C R A
    (by obtain ⟨h', q, z⟩ := cc_as (rc := rc) hr C A (((rc 0).2 ((x3 + (1 : Int32))).toNatClampNeg)) (((rc 0).2 ((x3 + (2 : Int32))).toNatClampNeg)); exact ⟨h', fun d => q (d + 3), z⟩)
    (fun g Rg => by obtain ⟨h', q, z⟩ := rr_as (rc := rc) Rg A (((rc 0).2 ((x3 + (1 : Int32))).toNatClampNeg)) (((rc 0).2 ((x3 + (2 : Int32))).toNatClampNeg)); exact ⟨h', fun d => q (d + 3), z⟩) (aa_as A (((rc 0).2 ((x3 + (1 : Int32))).toNatClampNeg)) (((rc 0).2 ((x3 + (2 : Int32))).toNatClampNeg)))
  refine ⟨h2, _, fun d => ?_, C2, R2, aa_as A (((rc 0).2 ((x3 + (1 : Int32))).toNatClampNeg)) (((rc 0).2 ((x3 + (2 : Int32))).toNatClampNeg)), n1, n2⟩
  rw [je_333_794, if_neg o.1, if_neg o.2.1, c1, jk_cI, if_neg o.1, if_neg o.2.1, r1, jk_cI, if_pos rfl]
theorem lz_821 (hr : jk_rom rc) (C : CSt h σ) (R : RSt h σ) (A : AWt σ) (x3 : Int32) (o : lz_o rc x3) : lz_S rc h x3 821 := by
  obtain ⟨h1, h2, c1, r1, C2, R2, n1, n2⟩ := both (rc := rc) (kc := 36) (kr := 183) (as := [.ref 0, .int ((rc 0).2 ((x3 + (1 : Int32))).toNatClampNeg), .int ((rc 0).2 ((x3 + (2 : Int32))).toNatClampNeg)]) (bs := [.ref 336, .int ((rc 0).2 ((x3 + (1 : Int32))).toNatClampNeg), .int ((rc 0).2 ((x3 + (2 : Int32))).toNatClampNeg)]) (op := op_next σ (((rc 0).2 ((x3 + (1 : Int32))).toNatClampNeg)) (((rc 0).2 ((x3 + (2 : Int32))).toNatClampNeg))) C R A
    (by obtain ⟨h', q, z⟩ := cc_next (rc := rc) hr C A (((rc 0).2 ((x3 + (1 : Int32))).toNatClampNeg)) (((rc 0).2 ((x3 + (2 : Int32))).toNatClampNeg)); exact ⟨h', fun d => q (d + 3), z⟩)
    (fun g Rg => by obtain ⟨h', q, z⟩ := rr_next (rc := rc) Rg A (((rc 0).2 ((x3 + (1 : Int32))).toNatClampNeg)) (((rc 0).2 ((x3 + (2 : Int32))).toNatClampNeg)); exact ⟨h', fun d => q (d + 3), z⟩) (aa_next A (((rc 0).2 ((x3 + (1 : Int32))).toNatClampNeg)) (((rc 0).2 ((x3 + (2 : Int32))).toNatClampNeg)))
  refine ⟨h2, _, fun d => ?_, C2, R2, aa_next A (((rc 0).2 ((x3 + (1 : Int32))).toNatClampNeg)) (((rc 0).2 ((x3 + (2 : Int32))).toNatClampNeg)), n1, n2⟩
  rw [je_333_821, if_neg o.1, if_neg o.2.1, c1, jk_cI, if_neg o.1, if_neg o.2.1, r1, jk_cI, if_pos rfl]
theorem lz_848 (hr : jk_rom rc) (C : CSt h σ) (R : RSt h σ) (A : AWt σ) (x3 : Int32) (o : lz_o rc x3) : lz_S rc h x3 848 := by
  obtain ⟨h1, h2, c1, r1, C2, R2, n1, n2⟩ := both (rc := rc) (kc := 37) (kr := 184) (as := [.ref 0, .int ((rc 0).2 ((x3 + (1 : Int32))).toNatClampNeg), .int ((rc 0).2 ((x3 + (2 : Int32))).toNatClampNeg)]) (bs := [.ref 336, .int ((rc 0).2 ((x3 + (1 : Int32))).toNatClampNeg), .int ((rc 0).2 ((x3 + (2 : Int32))).toNatClampNeg)]) (op := op_work σ (((rc 0).2 ((x3 + (1 : Int32))).toNatClampNeg)) (((rc 0).2 ((x3 + (2 : Int32))).toNatClampNeg))) C R A
    (by obtain ⟨h', q, z⟩ := cc_work (rc := rc) hr C A (((rc 0).2 ((x3 + (1 : Int32))).toNatClampNeg)) (((rc 0).2 ((x3 + (2 : Int32))).toNatClampNeg)); exact ⟨h', fun d => q (d + 3), z⟩)
    (fun g Rg => by obtain ⟨h', q, z⟩ := rr_work (rc := rc) Rg A (((rc 0).2 ((x3 + (1 : Int32))).toNatClampNeg)) (((rc 0).2 ((x3 + (2 : Int32))).toNatClampNeg)); exact ⟨h', fun d => q (d + 3), z⟩) (aa_work A (((rc 0).2 ((x3 + (1 : Int32))).toNatClampNeg)) (((rc 0).2 ((x3 + (2 : Int32))).toNatClampNeg)))
  refine ⟨h2, _, fun d => ?_, C2, R2, aa_work A (((rc 0).2 ((x3 + (1 : Int32))).toNatClampNeg)) (((rc 0).2 ((x3 + (2 : Int32))).toNatClampNeg)), n1, n2⟩
  rw [je_333_848, if_neg o.1, if_neg o.2.1, c1, jk_cI, if_neg o.1, if_neg o.2.1, r1, jk_cI, if_pos rfl]
theorem lz_875 (hr : jk_rom rc) (C : CSt h σ) (R : RSt h σ) (A : AWt σ) (x3 : Int32) (o : lz_o rc x3) : lz_S rc h x3 875 := by
  obtain ⟨h1, h2, c1, r1, C2, R2, n1, n2⟩ := both (rc := rc) (kc := 38) (kr := 187) (as := [.ref 0, .int ((rc 0).2 ((x3 + (1 : Int32))).toNatClampNeg), .int ((rc 0).2 ((x3 + (2 : Int32))).toNatClampNeg)]) (bs := [.ref 336, .int ((rc 0).2 ((x3 + (1 : Int32))).toNatClampNeg), .int ((rc 0).2 ((x3 + (2 : Int32))).toNatClampNeg)]) (op := op_rest σ (((rc 0).2 ((x3 + (1 : Int32))).toNatClampNeg)) (((rc 0).2 ((x3 + (2 : Int32))).toNatClampNeg))) C R A
    (by obtain ⟨h', q, z⟩ := cc_rest (rc := rc) hr C A (((rc 0).2 ((x3 + (1 : Int32))).toNatClampNeg)) (((rc 0).2 ((x3 + (2 : Int32))).toNatClampNeg)); exact ⟨h', fun d => q (d + 3), z⟩)
    (fun g Rg => by obtain ⟨h', q, z⟩ := rr_rest (rc := rc) Rg A (((rc 0).2 ((x3 + (1 : Int32))).toNatClampNeg)) (((rc 0).2 ((x3 + (2 : Int32))).toNatClampNeg)); exact ⟨h', fun d => q (d + 3), z⟩) (aa_rest A (((rc 0).2 ((x3 + (1 : Int32))).toNatClampNeg)) (((rc 0).2 ((x3 + (2 : Int32))).toNatClampNeg)))
  refine ⟨h2, _, fun d => ?_, C2, R2, aa_rest A (((rc 0).2 ((x3 + (1 : Int32))).toNatClampNeg)) (((rc 0).2 ((x3 + (2 : Int32))).toNatClampNeg)), n1, n2⟩
  rw [je_333_875, if_neg o.1, if_neg o.2.1, c1, jk_cI, if_neg o.1, if_neg o.2.1, r1, jk_cI, if_pos rfl]
theorem lz_902 (hr : jk_rom rc) (C : CSt h σ) (R : RSt h σ) (A : AWt σ) (x3 : Int32) (o : lz_o rc x3) : lz_S rc h x3 902 := by
  obtain ⟨h1, h2, c1, r1, C2, R2, n1, n2⟩ := both (rc := rc) (kc := 39) (kr := 188) (as := [.ref 0, .int ((rc 0).2 ((x3 + (1 : Int32))).toNatClampNeg)]) (bs := [.ref 336, .int ((rc 0).2 ((x3 + (1 : Int32))).toNatClampNeg)]) (op := op_best σ (((rc 0).2 ((x3 + (1 : Int32))).toNatClampNeg))) C R A
    (by obtain ⟨h', q, z⟩ := cc_best (rc := rc) hr C A (((rc 0).2 ((x3 + (1 : Int32))).toNatClampNeg)); exact ⟨h', fun d => q (d + 3), z⟩)
    (fun g Rg => by obtain ⟨h', q, z⟩ := rr_best (rc := rc) Rg A (((rc 0).2 ((x3 + (1 : Int32))).toNatClampNeg)); exact ⟨h', fun d => q (d + 3), z⟩) (aa_best A (((rc 0).2 ((x3 + (1 : Int32))).toNatClampNeg)))
  refine ⟨h2, _, fun d => ?_, C2, R2, aa_best A (((rc 0).2 ((x3 + (1 : Int32))).toNatClampNeg)), n1, n2⟩
  rw [je_333_902, if_neg o.1, c1, jk_cI, if_neg o.1, r1, jk_cI, if_pos rfl]
theorem lz_919 (hr : jk_rom rc) (C : CSt h σ) (R : RSt h σ) (A : AWt σ) (x3 : Int32) (o : lz_o rc x3) : lz_S rc h x3 919 := by
  obtain ⟨h1, h2, c1, r1, C2, R2, n1, n2⟩ := both (rc := rc) (kc := 40) (kr := 190) (as := [.ref 0, .int ((rc 0).2 ((x3 + (1 : Int32))).toNatClampNeg), .int ((rc 0).2 ((x3 + (2 : Int32))).toNatClampNeg)]) (bs := [.ref 336, .int ((rc 0).2 ((x3 + (1 : Int32))).toNatClampNeg), .int ((rc 0).2 ((x3 + (2 : Int32))).toNatClampNeg)]) (op := op_fewest σ (((rc 0).2 ((x3 + (1 : Int32))).toNatClampNeg)) (((rc 0).2 ((x3 + (2 : Int32))).toNatClampNeg))) C R A
    (by obtain ⟨h', q, z⟩ := cc_fewest (rc := rc) hr C A (((rc 0).2 ((x3 + (1 : Int32))).toNatClampNeg)) (((rc 0).2 ((x3 + (2 : Int32))).toNatClampNeg)); exact ⟨h', fun d => q (d + 3), z⟩)
    (fun g Rg => by obtain ⟨h', q, z⟩ := rr_fewest (rc := rc) Rg A (((rc 0).2 ((x3 + (1 : Int32))).toNatClampNeg)) (((rc 0).2 ((x3 + (2 : Int32))).toNatClampNeg)); exact ⟨h', fun d => q (d + 3), z⟩) (aa_fewest A (((rc 0).2 ((x3 + (1 : Int32))).toNatClampNeg)) (((rc 0).2 ((x3 + (2 : Int32))).toNatClampNeg)))
  refine ⟨h2, _, fun d => ?_, C2, R2, aa_fewest A (((rc 0).2 ((x3 + (1 : Int32))).toNatClampNeg)) (((rc 0).2 ((x3 + (2 : Int32))).toNatClampNeg)), n1, n2⟩
  rw [je_333_919, if_neg o.1, if_neg o.2.1, c1, jk_cI, if_neg o.1, if_neg o.2.1, r1, jk_cI, if_pos rfl]
theorem lz_946 (hr : jk_rom rc) (C : CSt h σ) (R : RSt h σ) (A : AWt σ) (x3 : Int32) (o : lz_o rc x3) : lz_S rc h x3 946 := by
  obtain ⟨h1, h2, c1, r1, C2, R2, n1, n2⟩ := both (rc := rc) (kc := 41) (kr := 192) (as := [.ref 0, .int ((rc 0).2 ((x3 + (1 : Int32))).toNatClampNeg), .int ((rc 0).2 ((x3 + (2 : Int32))).toNatClampNeg)]) (bs := [.ref 336, .int ((rc 0).2 ((x3 + (1 : Int32))).toNatClampNeg), .int ((rc 0).2 ((x3 + (2 : Int32))).toNatClampNeg)]) (op := op_reach σ (((rc 0).2 ((x3 + (1 : Int32))).toNatClampNeg)) (((rc 0).2 ((x3 + (2 : Int32))).toNatClampNeg))) C R A
    (by obtain ⟨h', q, z⟩ := cc_reach (rc := rc) hr C A (((rc 0).2 ((x3 + (1 : Int32))).toNatClampNeg)) (((rc 0).2 ((x3 + (2 : Int32))).toNatClampNeg)); exact ⟨h', fun d => q (d + 3), z⟩)
    (fun g Rg => by obtain ⟨h', q, z⟩ := rr_reach (rc := rc) Rg A (((rc 0).2 ((x3 + (1 : Int32))).toNatClampNeg)) (((rc 0).2 ((x3 + (2 : Int32))).toNatClampNeg)); exact ⟨h', fun d => q d, z⟩) (aa_reach A (((rc 0).2 ((x3 + (1 : Int32))).toNatClampNeg)) (((rc 0).2 ((x3 + (2 : Int32))).toNatClampNeg)))
  refine ⟨h2, _, fun d => ?_, C2, R2, aa_reach A (((rc 0).2 ((x3 + (1 : Int32))).toNatClampNeg)) (((rc 0).2 ((x3 + (2 : Int32))).toNatClampNeg)), n1, n2⟩
  rw [je_333_946, if_neg o.1, if_neg o.2.1, c1, jk_cI, if_neg o.1, if_neg o.2.1, r1, jk_cI, if_pos rfl]
theorem lz_973 (hr : jk_rom rc) (C : CSt h σ) (R : RSt h σ) (A : AWt σ) (x3 : Int32) (o : lz_o rc x3) : lz_S rc h x3 973 := by
  obtain ⟨h1, h2, c1, r1, C2, R2, n1, n2⟩ := both (rc := rc) (kc := 42) (kr := 193) (as := [.ref 0, .int ((rc 0).2 ((x3 + (1 : Int32))).toNatClampNeg), .int ((rc 0).2 ((x3 + (2 : Int32))).toNatClampNeg), .int ((rc 0).2 ((x3 + (3 : Int32))).toNatClampNeg)]) (bs := [.ref 336, .int ((rc 0).2 ((x3 + (1 : Int32))).toNatClampNeg), .int ((rc 0).2 ((x3 + (2 : Int32))).toNatClampNeg), .int ((rc 0).2 ((x3 + (3 : Int32))).toNatClampNeg)]) (op := op_sheet σ (((rc 0).2 ((x3 + (1 : Int32))).toNatClampNeg)) (((rc 0).2 ((x3 + (2 : Int32))).toNatClampNeg)) (((rc 0).2 ((x3 + (3 : Int32))).toNatClampNeg))) C R A
    (by obtain ⟨h', q, z⟩ := cc_sheet (rc := rc) C A (((rc 0).2 ((x3 + (1 : Int32))).toNatClampNeg)) (((rc 0).2 ((x3 + (2 : Int32))).toNatClampNeg)) (((rc 0).2 ((x3 + (3 : Int32))).toNatClampNeg)); exact ⟨h', fun d => q (d + 3), z⟩)
    (fun g Rg => by obtain ⟨h', q, z⟩ := rr_sheet (rc := rc) Rg A (((rc 0).2 ((x3 + (1 : Int32))).toNatClampNeg)) (((rc 0).2 ((x3 + (2 : Int32))).toNatClampNeg)) (((rc 0).2 ((x3 + (3 : Int32))).toNatClampNeg)); exact ⟨h', fun d => q (d + 3), z⟩) (aa_sheet A (((rc 0).2 ((x3 + (1 : Int32))).toNatClampNeg)) (((rc 0).2 ((x3 + (2 : Int32))).toNatClampNeg)) (((rc 0).2 ((x3 + (3 : Int32))).toNatClampNeg)))
  refine ⟨h2, _, fun d => ?_, C2, R2, aa_sheet A (((rc 0).2 ((x3 + (1 : Int32))).toNatClampNeg)) (((rc 0).2 ((x3 + (2 : Int32))).toNatClampNeg)) (((rc 0).2 ((x3 + (3 : Int32))).toNatClampNeg)), n1, n2⟩
  rw [je_333_973, if_neg o.1, if_neg o.2.1, if_neg o.2.2.1, c1, jk_cI, if_neg o.1, if_neg o.2.1, if_neg o.2.2.1, r1, jk_cI, if_pos rfl]
theorem lz_1010 (hr : jk_rom rc) (C : CSt h σ) (R : RSt h σ) (A : AWt σ) (x3 : Int32) (o : lz_o rc x3) : lz_S rc h x3 1010 := by
  obtain ⟨h1, h2, c1, r1, C2, R2, n1, n2⟩ := both (rc := rc) (kc := 43) (kr := 196) (as := [.ref 0, .int ((rc 0).2 ((x3 + (1 : Int32))).toNatClampNeg), .int ((rc 0).2 ((x3 + (2 : Int32))).toNatClampNeg), .int ((rc 0).2 ((x3 + (3 : Int32))).toNatClampNeg)]) (bs := [.ref 336, .int ((rc 0).2 ((x3 + (1 : Int32))).toNatClampNeg), .int ((rc 0).2 ((x3 + (2 : Int32))).toNatClampNeg), .int ((rc 0).2 ((x3 + (3 : Int32))).toNatClampNeg)]) (op := op_put σ (((rc 0).2 ((x3 + (1 : Int32))).toNatClampNeg)) (((rc 0).2 ((x3 + (2 : Int32))).toNatClampNeg)) (((rc 0).2 ((x3 + (3 : Int32))).toNatClampNeg))) C R A
    (by obtain ⟨h', q, z⟩ := cc_put (rc := rc) C A (((rc 0).2 ((x3 + (1 : Int32))).toNatClampNeg)) (((rc 0).2 ((x3 + (2 : Int32))).toNatClampNeg)) (((rc 0).2 ((x3 + (3 : Int32))).toNatClampNeg)); exact ⟨h', fun d => q (d + 3), z⟩)
    (fun g Rg => by obtain ⟨h', q, z⟩ := rr_put (rc := rc) Rg A (((rc 0).2 ((x3 + (1 : Int32))).toNatClampNeg)) (((rc 0).2 ((x3 + (2 : Int32))).toNatClampNeg)) (((rc 0).2 ((x3 + (3 : Int32))).toNatClampNeg)); exact ⟨h', fun d => q (d + 3), z⟩) (aa_put A (((rc 0).2 ((x3 + (1 : Int32))).toNatClampNeg)) (((rc 0).2 ((x3 + (2 : Int32))).toNatClampNeg)) (((rc 0).2 ((x3 + (3 : Int32))).toNatClampNeg)))
  refine ⟨h2, _, fun d => ?_, C2, R2, aa_put A (((rc 0).2 ((x3 + (1 : Int32))).toNatClampNeg)) (((rc 0).2 ((x3 + (2 : Int32))).toNatClampNeg)) (((rc 0).2 ((x3 + (3 : Int32))).toNatClampNeg)), n1, n2⟩
  rw [je_333_1010, if_neg o.1, if_neg o.2.1, if_neg o.2.2.1, c1, jk_cI, if_neg o.1, if_neg o.2.1, if_neg o.2.2.1, r1, jk_cI, if_pos rfl]
theorem lz_1047 (hr : jk_rom rc) (C : CSt h σ) (R : RSt h σ) (A : AWt σ) (x3 : Int32) (o : lz_o rc x3) : lz_S rc h x3 1047 := by
  obtain ⟨h1, h2, c1, r1, C2, R2, n1, n2⟩ := both (rc := rc) (kc := 44) (kr := 197) (as := [.ref 0, .int ((rc 0).2 ((x3 + (1 : Int32))).toNatClampNeg), .int ((rc 0).2 ((x3 + (2 : Int32))).toNatClampNeg)]) (bs := [.ref 336, .int ((rc 0).2 ((x3 + (1 : Int32))).toNatClampNeg), .int ((rc 0).2 ((x3 + (2 : Int32))).toNatClampNeg)]) (op := op_number σ (((rc 0).2 ((x3 + (1 : Int32))).toNatClampNeg)) (((rc 0).2 ((x3 + (2 : Int32))).toNatClampNeg))) C R A
    (by obtain ⟨h', q, z⟩ := cc_number (rc := rc) C A (((rc 0).2 ((x3 + (1 : Int32))).toNatClampNeg)) (((rc 0).2 ((x3 + (2 : Int32))).toNatClampNeg)); exact ⟨h', fun d => q (d + 3), z⟩)
    (fun g Rg => by obtain ⟨h', q, z⟩ := rr_number (rc := rc) Rg A (((rc 0).2 ((x3 + (1 : Int32))).toNatClampNeg)) (((rc 0).2 ((x3 + (2 : Int32))).toNatClampNeg)); exact ⟨h', fun d => q (d + 3), z⟩) (aa_number A (((rc 0).2 ((x3 + (1 : Int32))).toNatClampNeg)) (((rc 0).2 ((x3 + (2 : Int32))).toNatClampNeg)))
  refine ⟨h2, _, fun d => ?_, C2, R2, aa_number A (((rc 0).2 ((x3 + (1 : Int32))).toNatClampNeg)) (((rc 0).2 ((x3 + (2 : Int32))).toNatClampNeg)), n1, n2⟩
  rw [je_333_1047, if_neg o.1, if_neg o.2.1, c1, jk_cI, if_neg o.1, if_neg o.2.1, r1, jk_cI, if_pos rfl]
theorem lz_1074 (hr : jk_rom rc) (C : CSt h σ) (R : RSt h σ) (A : AWt σ) (x3 : Int32) (o : lz_o rc x3) : lz_S rc h x3 1074 := by
  obtain ⟨h1, h2, c1, r1, C2, R2, n1, n2⟩ := both (rc := rc) (kc := 45) (kr := 198) (as := [.ref 0, .int ((rc 0).2 ((x3 + (1 : Int32))).toNatClampNeg), .int ((rc 0).2 ((x3 + (2 : Int32))).toNatClampNeg), .int ((rc 0).2 ((x3 + (3 : Int32))).toNatClampNeg), .int ((rc 0).2 ((x3 + (4 : Int32))).toNatClampNeg), .int ((rc 0).2 ((x3 + (5 : Int32))).toNatClampNeg)]) (bs := [.ref 336, .int ((rc 0).2 ((x3 + (1 : Int32))).toNatClampNeg), .int ((rc 0).2 ((x3 + (2 : Int32))).toNatClampNeg), .int ((rc 0).2 ((x3 + (3 : Int32))).toNatClampNeg), .int ((rc 0).2 ((x3 + (4 : Int32))).toNatClampNeg), .int ((rc 0).2 ((x3 + (5 : Int32))).toNatClampNeg)]) (op := op_copy σ (((rc 0).2 ((x3 + (1 : Int32))).toNatClampNeg)) (((rc 0).2 ((x3 + (2 : Int32))).toNatClampNeg)) (((rc 0).2 ((x3 + (3 : Int32))).toNatClampNeg)) (((rc 0).2 ((x3 + (4 : Int32))).toNatClampNeg)) (((rc 0).2 ((x3 + (5 : Int32))).toNatClampNeg))) C R A
    (by obtain ⟨h', q, z⟩ := cc_copy (rc := rc) C A (((rc 0).2 ((x3 + (1 : Int32))).toNatClampNeg)) (((rc 0).2 ((x3 + (2 : Int32))).toNatClampNeg)) (((rc 0).2 ((x3 + (3 : Int32))).toNatClampNeg)) (((rc 0).2 ((x3 + (4 : Int32))).toNatClampNeg)) (((rc 0).2 ((x3 + (5 : Int32))).toNatClampNeg)); exact ⟨h', fun d => q (d + 3), z⟩)
    (fun g Rg => by obtain ⟨h', q, z⟩ := rr_copy (rc := rc) Rg A (((rc 0).2 ((x3 + (1 : Int32))).toNatClampNeg)) (((rc 0).2 ((x3 + (2 : Int32))).toNatClampNeg)) (((rc 0).2 ((x3 + (3 : Int32))).toNatClampNeg)) (((rc 0).2 ((x3 + (4 : Int32))).toNatClampNeg)) (((rc 0).2 ((x3 + (5 : Int32))).toNatClampNeg)); exact ⟨h', fun d => q (d + 3), z⟩) (aa_copy A (((rc 0).2 ((x3 + (1 : Int32))).toNatClampNeg)) (((rc 0).2 ((x3 + (2 : Int32))).toNatClampNeg)) (((rc 0).2 ((x3 + (3 : Int32))).toNatClampNeg)) (((rc 0).2 ((x3 + (4 : Int32))).toNatClampNeg)) (((rc 0).2 ((x3 + (5 : Int32))).toNatClampNeg)))
  refine ⟨h2, _, fun d => ?_, C2, R2, aa_copy A (((rc 0).2 ((x3 + (1 : Int32))).toNatClampNeg)) (((rc 0).2 ((x3 + (2 : Int32))).toNatClampNeg)) (((rc 0).2 ((x3 + (3 : Int32))).toNatClampNeg)) (((rc 0).2 ((x3 + (4 : Int32))).toNatClampNeg)) (((rc 0).2 ((x3 + (5 : Int32))).toNatClampNeg)), n1, n2⟩
  rw [je_333_1074, if_neg o.1, if_neg o.2.1, if_neg o.2.2.1, if_neg o.2.2.2.1, if_neg o.2.2.2.2, c1, jk_cI, if_neg o.1, if_neg o.2.1, if_neg o.2.2.1, if_neg o.2.2.2.1, if_neg o.2.2.2.2, r1, jk_cI, if_pos rfl]
theorem lz_1131 (hr : jk_rom rc) (C : CSt h σ) (R : RSt h σ) (A : AWt σ) (x3 : Int32) (o : lz_o rc x3) : lz_S rc h x3 1131 := by
  obtain ⟨h1, h2, c1, r1, C2, R2, n1, n2⟩ := both (rc := rc) (kc := 46) (kr := 200) (as := [.ref 0, .int ((rc 0).2 ((x3 + (1 : Int32))).toNatClampNeg)]) (bs := [.ref 336, .int ((rc 0).2 ((x3 + (1 : Int32))).toNatClampNeg)]) (op := op_weighAll σ (((rc 0).2 ((x3 + (1 : Int32))).toNatClampNeg))) C R A
    (by obtain ⟨h', q, z⟩ := cc_weighAll (rc := rc) C A (((rc 0).2 ((x3 + (1 : Int32))).toNatClampNeg)); exact ⟨h', fun d => q (d + 3), z⟩)
    (fun g Rg => by obtain ⟨h', q, z⟩ := rr_weighAll (rc := rc) Rg A (((rc 0).2 ((x3 + (1 : Int32))).toNatClampNeg)); exact ⟨h', fun d => q (d + 3), z⟩) (aa_weighAll A (((rc 0).2 ((x3 + (1 : Int32))).toNatClampNeg)))
  refine ⟨h2, _, fun d => ?_, C2, R2, aa_weighAll A (((rc 0).2 ((x3 + (1 : Int32))).toNatClampNeg)), n1, n2⟩
  rw [je_333_1131, if_neg o.1, c1, jk_cI, if_neg o.1, r1, jk_cI, if_pos rfl]
theorem lz_1148 (hr : jk_rom rc) (C : CSt h σ) (R : RSt h σ) (A : AWt σ) (x3 : Int32) (o : lz_o rc x3) : lz_S rc h x3 1148 := by
  obtain ⟨h1, h2, c1, r1, C2, R2, n1, n2⟩ := both (rc := rc) (kc := 47) (kr := 201) (as := [.ref 0, .int ((rc 0).2 ((x3 + (1 : Int32))).toNatClampNeg)]) (bs := [.ref 336, .int ((rc 0).2 ((x3 + (1 : Int32))).toNatClampNeg)]) (op := op_book σ (((rc 0).2 ((x3 + (1 : Int32))).toNatClampNeg))) C R A
    (by obtain ⟨h', q, z⟩ := cc_book (rc := rc) C A (((rc 0).2 ((x3 + (1 : Int32))).toNatClampNeg)); exact ⟨h', fun d => q (d + 3), z⟩)
    (fun g Rg => by obtain ⟨h', q, z⟩ := rr_book (rc := rc) Rg A (((rc 0).2 ((x3 + (1 : Int32))).toNatClampNeg)); exact ⟨h', fun d => q (d + 3), z⟩) (aa_book A (((rc 0).2 ((x3 + (1 : Int32))).toNatClampNeg)))
  refine ⟨h2, _, fun d => ?_, C2, R2, aa_book A (((rc 0).2 ((x3 + (1 : Int32))).toNatClampNeg)), n1, n2⟩
  rw [je_333_1148, if_neg o.1, c1, jk_cI, if_neg o.1, r1, jk_cI, if_pos rfl]
theorem lz_1165 (hr : jk_rom rc) (C : CSt h σ) (R : RSt h σ) (A : AWt σ) (x3 : Int32) (o : lz_o rc x3) : lz_S rc h x3 1165 := by
  obtain ⟨h1, h2, c1, r1, C2, R2, n1, n2⟩ := both (rc := rc) (kc := 48) (kr := 202) (as := [.ref 0, .int ((rc 0).2 ((x3 + (1 : Int32))).toNatClampNeg), .int ((rc 0).2 ((x3 + (2 : Int32))).toNatClampNeg)]) (bs := [.ref 336, .int ((rc 0).2 ((x3 + (1 : Int32))).toNatClampNeg), .int ((rc 0).2 ((x3 + (2 : Int32))).toNatClampNeg)]) (op := op_plays σ (((rc 0).2 ((x3 + (1 : Int32))).toNatClampNeg)) (((rc 0).2 ((x3 + (2 : Int32))).toNatClampNeg))) C R A
    (by obtain ⟨h', q, z⟩ := cc_plays (rc := rc) hr C A (((rc 0).2 ((x3 + (1 : Int32))).toNatClampNeg)) (((rc 0).2 ((x3 + (2 : Int32))).toNatClampNeg)); exact ⟨h', fun d => q (d + 3), z⟩)
    (fun g Rg => by obtain ⟨h', q, z⟩ := rr_plays (rc := rc) Rg A (((rc 0).2 ((x3 + (1 : Int32))).toNatClampNeg)) (((rc 0).2 ((x3 + (2 : Int32))).toNatClampNeg)); exact ⟨h', fun d => q (d + 3), z⟩) (aa_plays A (((rc 0).2 ((x3 + (1 : Int32))).toNatClampNeg)) (((rc 0).2 ((x3 + (2 : Int32))).toNatClampNeg)))
  refine ⟨h2, _, fun d => ?_, C2, R2, aa_plays A (((rc 0).2 ((x3 + (1 : Int32))).toNatClampNeg)) (((rc 0).2 ((x3 + (2 : Int32))).toNatClampNeg)), n1, n2⟩
  rw [je_333_1165, if_neg o.1, if_neg o.2.1, c1, jk_cI, if_neg o.1, if_neg o.2.1, r1, jk_cI, if_pos rfl]
theorem lz_1192 (hr : jk_rom rc) (C : CSt h σ) (R : RSt h σ) (A : AWt σ) (x3 : Int32) (o : lz_o rc x3) : lz_S rc h x3 1192 := by
  obtain ⟨h1, h2, c1, r1, C2, R2, n1, n2⟩ := both (rc := rc) (kc := 49) (kr := 203) (as := [.ref 0]) (bs := [.ref 336]) (op := op_image σ ) C R A
    (by obtain ⟨h', q, z⟩ := cc_image (rc := rc) C A ; exact ⟨h', fun d => q (d + 3), z⟩)
    (fun g Rg => by obtain ⟨h', q, z⟩ := rr_image (rc := rc) Rg A ; exact ⟨h', fun d => q (d + 3), z⟩) (aa_image A )
  refine ⟨h2, _, fun d => ?_, C2, R2, aa_image A , n1, n2⟩
  rw [je_333_1192, c1, jk_cI, r1, jk_cI, if_pos rfl]
theorem lz_1199 (hr : jk_rom rc) (C : CSt h σ) (R : RSt h σ) (A : AWt σ) (x3 : Int32) (o : lz_o rc x3) : lz_S rc h x3 1199 := by
  obtain ⟨h1, h2, c1, r1, C2, R2, n1, n2⟩ := both (rc := rc) (kc := 50) (kr := 204) (as := [.ref 0]) (bs := [.ref 336]) (op := op_restore σ ) C R A
    (by obtain ⟨h', q, z⟩ := cc_restore (rc := rc) C A ; exact ⟨h', fun d => q (d + 3), z⟩)
    (fun g Rg => by obtain ⟨h', q, z⟩ := rr_restore (rc := rc) Rg A ; exact ⟨h', fun d => q (d + 3), z⟩) (aa_restore A )
  refine ⟨h2, _, fun d => ?_, C2, R2, aa_restore A , n1, n2⟩
  rw [je_333_1199, c1, jk_cI, r1, jk_cI, if_pos rfl]
theorem lz_1206 (hr : jk_rom rc) (C : CSt h σ) (R : RSt h σ) (A : AWt σ) (x3 : Int32) (o : lz_o rc x3) : lz_S rc h x3 1206 := by
  obtain ⟨h1, h2, c1, r1, C2, R2, n1, n2⟩ := both (rc := rc) (kc := 51) (kr := 208) (as := [.ref 0, .int ((rc 0).2 ((x3 + (1 : Int32))).toNatClampNeg)]) (bs := [.ref 336, .int ((rc 0).2 ((x3 + (1 : Int32))).toNatClampNeg)]) (op := op_count σ (((rc 0).2 ((x3 + (1 : Int32))).toNatClampNeg))) C R A
    (by obtain ⟨h', q, z⟩ := cc_count (rc := rc) C A (((rc 0).2 ((x3 + (1 : Int32))).toNatClampNeg)); exact ⟨h', fun d => q (d + 3), z⟩)
    (fun g Rg => by obtain ⟨h', q, z⟩ := rr_count (rc := rc) Rg A (((rc 0).2 ((x3 + (1 : Int32))).toNatClampNeg)); exact ⟨h', fun d => q (d + 3), z⟩) (aa_count A (((rc 0).2 ((x3 + (1 : Int32))).toNatClampNeg)))
  refine ⟨h2, _, fun d => ?_, C2, R2, aa_count A (((rc 0).2 ((x3 + (1 : Int32))).toNatClampNeg)), n1, n2⟩
  rw [je_333_1206, if_neg o.1, c1, jk_cI, if_neg o.1, r1, jk_cI, if_pos rfl]
theorem lz_1223 (hr : jk_rom rc) (C : CSt h σ) (R : RSt h σ) (A : AWt σ) (x3 : Int32) (o : lz_o rc x3) : lz_S rc h x3 1223 := by
  obtain ⟨h1, h2, c1, r1, C2, R2, n1, n2⟩ := both (rc := rc) (kc := 52) (kr := 209) (as := [.ref 0, .int ((rc 0).2 ((x3 + (1 : Int32))).toNatClampNeg)]) (bs := [.ref 336, .int ((rc 0).2 ((x3 + (1 : Int32))).toNatClampNeg)]) (op := op_told σ (((rc 0).2 ((x3 + (1 : Int32))).toNatClampNeg))) C R A
    (by obtain ⟨h', q, z⟩ := cc_told (rc := rc) C A (((rc 0).2 ((x3 + (1 : Int32))).toNatClampNeg)); exact ⟨h', fun d => q (d + 3), z⟩)
    (fun g Rg => by obtain ⟨h', q, z⟩ := rr_told (rc := rc) Rg A (((rc 0).2 ((x3 + (1 : Int32))).toNatClampNeg)); exact ⟨h', fun d => q (d + 3), z⟩) (aa_told A (((rc 0).2 ((x3 + (1 : Int32))).toNatClampNeg)))
  refine ⟨h2, _, fun d => ?_, C2, R2, aa_told A (((rc 0).2 ((x3 + (1 : Int32))).toNatClampNeg)), n1, n2⟩
  rw [je_333_1223, if_neg o.1, c1, jk_cI, if_neg o.1, r1, jk_cI, if_pos rfl]
end
