/-! What stands in the heap between calls: the class's objects from 0 to 335, the reference's from 336 to 450, shelves' forests and sheets from 451 on -/
def wk_ok (h : jxH) (a : Nat) : Prop := (∃ sz sn : Int32, jx_at h a = jxO 10 [.ref (a + 1), .ref (a + 2), .ref (a + 3), .int sz, .int sn]) ∧ (∃ g, jx_at h (a + 1) = jxI 0 12 g) ∧ (∃ g, jx_at h (a + 2) = jxI 0 12 g) ∧ ∃ g, jx_at h (a + 3) = jxI 0 12 g
def tx_ok (h : jxH) (a : Nat) : Prop := (∃ n : Int32, jx_at h a = jxO 8 [.ref (a + 1), .int n]) ∧ ∃ g, jx_at h (a + 1) = jxI 2 60 g
def sp_ok (h : jxH) (a : Nat) : Prop := jx_at h a = jxO 5 [.ref (a + 1), .ref (a + 5), .ref (a + 6)] ∧ wk_ok h (a + 1) ∧ (∃ Q, jx_at h (a + 5) = jxQ 7 12 Q ∧ ∀ i, i < 12 → Q i = some (a + 7 + 4 * i)) ∧ (∃ Q, jx_at h (a + 6) = jxQ 7 12 Q ∧ ∀ i, i < 12 → Q i = some (a + 9 + 4 * i)) ∧ ∀ i, i < 12 → tx_ok h (a + 7 + 4 * i) ∧ tx_ok h (a + 9 + 4 * i)
def rk_ok (h : jxH) (a : Nat) : Prop := (∃ (u l : Int64) (i1 i2 i3 i4 i5 i6 : Int32), jx_at h a = jxO 2 [.ref (a + 1), .ref (a + 5), .ref (a + 6), .ref (a + 7), .long u, .long l, .int i1, .int i2, .int i3, .int i4, .int i5, .int i6]) ∧ wk_ok h (a + 1) ∧ (∃ g, jx_at h (a + 5) = jxL 12 g) ∧ (∃ g, jx_at h (a + 6) = jxL 12 g) ∧ ∃ g, jx_at h (a + 7) = jxI 0 12 g
def st_ok (h : jxH) (t : Nat) : Prop := (∃ m sg, st_at h t m sg) ∧ ∃ f, fo_at h (t + 1) f
def se_ok (h : jxH) (a : Nat) : Prop := (∃ i1 i2 i3 i4 i5 : Int32, jx_at h a = jxO 3 [.ref (a + 1), .ref (a + 2), .ref (a + 6), .ref (a + 61), .ref (a + 63), .int i1, .int i2, .int i3, .int i4, .int i5]) ∧ (∃ Q, jx_at h (a + 1) = jxQ 4 4 Q ∧ ∀ i, i < 4 → Q i = some (a + 65 + 3 * i)) ∧ st_ok h (a + 2) ∧ sp_ok h (a + 6) ∧ tx_ok h (a + 61) ∧ tx_ok h (a + 63) ∧ ∀ i, i < 4 → ∃ f, fo_at h (a + 65 + 3 * i) f
/-- the class's scratch: thought, step, walk, reckoner, speller, spelled, search -/
def c_scr (h : jxH) : Prop := (∃ f, fo_at h 5 f) ∧ st_ok h 8 ∧ wk_ok h 174 ∧ rk_ok h 178 ∧ sp_ok h 186 ∧ tx_ok h 241 ∧ se_ok h 243
def c_scrP (x : Nat) : Prop := (5 ≤ x ∧ x < 12) ∨ (174 ≤ x ∧ x < 320)
-- the trail: how many are done, how many known, moves, signs, forests ahead of them (and behind the last)
abbrev jT := Nat × Nat × (Nat → jM) × (Nat → Int32) × (Nat → jF)
def tr_F (t : jT) : jF := t.2.2.2.2 t.1
def tr_0 (t : jT) (f : jF) : jT := (0, 0, t.2.2.1, t.2.2.2.1, fun _ => f)
def c_told (h : jxH) (T : Nat → Int32) : Prop := ∃ G, jx_at h 1 = jxI 0 8 G ∧ ∀ k, k < 8 → G k = T k
def c_tr (h : jxH) (t : jT) : Prop := jx_at h 12 = jxO 9 [.ref 13, .int (Int32.ofNat t.1), .int (Int32.ofNat t.2.1)] ∧ (∃ Q, jx_at h 13 = jxQ 6 40 Q ∧ ∀ i, i < 40 → Q i = some (14 + 4 * i)) ∧ (∀ i, i < 40 → st_ok h (14 + 4 * i)) ∧ ∀ i, i < t.2.1 → st_at h (14 + 4 * i) (t.2.2.1 i) (t.2.2.2.1 i) ∧ fo_at h (15 + 4 * i) (t.2.2.2.2 i)
-- workers: how many, their kinds, numbers, jobs
abbrev jC := Nat × (Nat → Int32) × (Nat → Nat) × (Nat → Nat)
def cr_at (h : jxH) (a : Nat) (c : jC) : Prop := jx_at h a = jxO 0 [.ref (a + 1), .ref (a + 2), .ref (a + 3), .int (Int32.ofNat c.1)] ∧ (∃ g, jx_at h (a + 1) = jxI 0 6 g ∧ ∀ i, i < c.1 → g i = c.2.1 i) ∧ (∃ g, jx_at h (a + 2) = jxI 0 6 g ∧ ∀ i, i < c.1 → g i = Int32.ofNat (c.2.2.1 i)) ∧ ∃ g, jx_at h (a + 3) = jxI 0 6 g ∧ ∀ i, i < c.1 → g i = Int32.ofNat (c.2.2.2 i)
def cr_W (c : jC) : Prop := c.1 ≤ 6 ∧ ∀ i, i < c.1 → jp_kind (c.2.1 i) = true ∧ c.2.2.1 i ≤ 9 ∧ c.2.2.2 i ≤ 9999
abbrev jP := Nat × (Nat → Int32)
def tp_at (h : jxH) (p : jP) : Prop := jx_at h 320 = jxO 7 [.ref 321, .ref 322, .int (Int32.ofNat p.1)] ∧ (∃ g, jx_at h 321 = jxI 0 120 g ∧ ∀ i, i < p.1 → g i = p.2 i) ∧ ∃ g, jx_at h 322 = jxI 0 12 g
-- shelves; sheets: bits, how many, numbers
abbrev jH := Nat → Option jF
abbrev jE := Nat → Option (Int32 × Nat × (Nat → Int32))
def c_dyn (h : jxH) (sh : jH) (ss : jE) : Prop := ∃ Q R : Nat → Option Nat, jx_at h 323 = jxQ 4 4 Q ∧ jx_at h 324 = jxQ 5 4 R ∧ 451 ≤ h.1 ∧ (∀ i, i < 4 → (sh i = none ∧ Q i = none) ∨ ∃ f b, sh i = some f ∧ Q i = some b ∧ 451 ≤ b ∧ b + 3 ≤ h.1 ∧ fo_at h b f) ∧ (∀ i, i < 4 → (ss i = none ∧ R i = none) ∨ ∃ e b, ss i = some e ∧ R i = some b ∧ 451 ≤ b ∧ b + 2 ≤ h.1 ∧ jx_at h b = jxO 4 [.int e.1, .ref (b + 1)] ∧ ∃ g, jx_at h (b + 1) = jxI 0 e.2.1 g ∧ ∀ k, k < e.2.1 → g k = e.2.2 k) ∧ (∀ i j b b', i < 4 → j < 4 → i ≠ j → R i = some b → R j = some b' → b + 2 ≤ b' ∨ b' + 2 ≤ b) ∧ ∀ i j b b', i < 4 → j < 4 → R i = some b → Q j = some b' → b + 2 ≤ b' ∨ b' + 3 ≤ b
abbrev jG := Option (jF × jC)
def c_im (h : jxH) (im : jG) : Prop := jx_at h 0 = jxO 11 [.ref 1, .ref 2, .ref 5, .ref 8, .ref 12, .ref 174, .ref 178, .ref 186, .ref 241, .ref 243, .ref 320, .ref 323, .ref 324, .ref 325, .ref 329, .ref 332, .int (jk_b im.isSome)] ∧ (∃ f, fo_at h 329 f) ∧ (∃ c, cr_at h 332 c) ∧ ∀ f c, im = some (f, c) → fo_at h 329 f ∧ cr_at h 332 c
/-- the class -/
def CS (h : jxH) (T : Nat → Int32) (t : jT) (sh : jH) (ss : jE) (c : jC) (im : jG) (p : jP) : Prop := c_told h T ∧ fo_at h 2 (tr_F t) ∧ c_tr h t ∧ c_dyn h sh ss ∧ cr_at h 325 c ∧ c_im h im ∧ tp_at h p ∧ c_scr h
-- what always holds of the numbers
def tr_W (t : jT) : Prop := t.1 ≤ t.2.1 ∧ t.2.1 ≤ 40 ∧ jf_W (t.2.2.2.2 0) ∧ ∀ i, i < t.2.1 → jf_ref (t.2.2.2.2 i) false (t.2.2.1 i) = 0 ∧ t.2.2.2.2 (i + 1) = jf_act (t.2.2.2.2 i) (t.2.2.1 i) ∧ jm_norm (t.2.2.1 i) = t.2.2.1 i
def sh_W (sh : jH) : Prop := ∀ i f, i < 4 → sh i = some f → jf_W f
def ss_W (ss : jE) : Prop := ∀ i e, i < 4 → ss i = some e → (e.1 = 8 ∨ e.1 = 16 ∨ e.1 = 32) ∧ e.2.1 ≤ 24
def im_W (im : jG) : Prop := ∀ f c, im = some (f, c) → jf_W f ∧ cr_W c
def p_W (p : jP) : Prop := p.1 ≤ 120 ∧ ∀ i, i < p.1 → ∃ b : Nat, b < 256 ∧ p.2 i = Int32.ofNat b
def AW (t : jT) (sh : jH) (ss : jE) (c : jC) (im : jG) (p : jP) : Prop := tr_W t ∧ sh_W sh ∧ ss_W ss ∧ cr_W c ∧ im_W im ∧ p_W p
/-- what of the reference's object changes: done, all, taped, at, isWrong, texted, dues, hired, three of fewest, keptHired, isKept -/
def m_obj (done all taped at_ wrong texted dues hired fl fm ff kh ik : Int32) : jxE := jxO 12 [.ref 337, .ref 338, .ref 339, .ref 381, .int done, .int all, .ref 382, .ref 383, .ref 384, .ref 385, .ref 398, .int taped, .int at_, .int wrong, .ref 399, .ref 400, .ref 401, .ref 414, .ref 415, .ref 428, .ref 429, .int texted, .ref 430, .ref 435, .ref 436, .int dues, .ref 437, .int hired, .ref 438, .int fl, .int fm, .int ff, .ref 445, .ref 446, .ref 447, .ref 448, .ref 449, .ref 450, .int kh, .int ik]
def m_rows (h : jxH) (a n b : Nat) : Prop := ∃ Q, jx_at h a = jxQ 8 n Q ∧ ∀ i, i < n → Q i = some (b + i)
def m_told (h : jxH) (T : Nat → Int32) : Prop := ∃ G, jx_at h 337 = jxI 0 8 G ∧ ∀ k, k < 8 → G k = T k
def m_tr (h : jxH) (t : jT) : Prop := m_rows h 339 41 340 ∧ (∀ i, i < 41 → ∃ f, ro_at h (340 + i) f) ∧ (∀ i, i ≤ t.2.1 → t.2.1 = 0 ∨ ro_at h (340 + i) (t.2.2.2.2 i)) ∧ ∃ D, jx_at h 381 = jxI 0 240 D ∧ ∀ i, i < t.2.1 → D (6 * i) = (t.2.2.1 i).1 ∧ D (6 * i + 1) = (t.2.2.1 i).2.1 ∧ D (6 * i + 2) = (t.2.2.1 i).2.2.1 ∧ D (6 * i + 3) = (t.2.2.1 i).2.2.2.1 ∧ D (6 * i + 4) = (t.2.2.1 i).2.2.2.2 ∧ D (6 * i + 5) = t.2.2.2.1 i
def m_sh (h : jxH) (sh : jH) : Prop := m_rows h 430 4 431 ∧ (∃ B, jx_at h 435 = jxI 3 4 B ∧ ∀ i, i < 4 → B i = jk_b (sh i).isSome) ∧ ∀ i, i < 4 → (∃ f, ro_at h (431 + i) f) ∧ ∀ f, sh i = some f → ro_at h (431 + i) f
def e_bits (e : Option (Int32 × Nat × (Nat → Int32))) : Int32 := match e with
  | some e => e.1
  | none => 0
def e_size (e : Option (Int32 × Nat × (Nat → Int32))) : Nat := match e with
  | some e => e.2.1
  | none => 0
def m_ss (h : jxH) (ss : jE) : Prop := (∃ B, jx_at h 445 = jxI 0 4 B ∧ ∀ i, i < 4 → B i = e_bits (ss i)) ∧ (∃ B, jx_at h 446 = jxI 0 4 B ∧ ∀ i, i < 4 → B i = Int32.ofNat (e_size (ss i))) ∧ (∃ B, jx_at h 447 = jxI 0 96 B ∧ ∀ i e k, i < 4 → ss i = some e → k < e.2.1 → B (24 * i + k) = e.2.2 k) ∧ ∃ B, jx_at h 448 = jxI 0 24 B
def m_crew (h : jxH) (a : Nat) (c : jC) : Prop := ∃ G, jx_at h a = jxI 0 18 G ∧ ∀ i, i < c.1 → G (3 * i) = c.2.1 i ∧ G (3 * i + 1) = Int32.ofNat (c.2.2.1 i) ∧ G (3 * i + 2) = Int32.ofNat (c.2.2.2 i)
def m_tape (h : jxH) (p : jP) : Prop := ∃ G, jx_at h 398 = jxI 0 120 G ∧ ∀ i, i < p.1 → G i = p.2 i
def m_im (h : jxH) (im : jG) : Prop := (∃ f, ro_at h 449 f) ∧ (∃ G, jx_at h 450 = jxI 0 18 G) ∧ ∀ f c, im = some (f, c) → ro_at h 449 f ∧ m_crew h 450 c
/-- its scratch: minors, sums, terms, rows, read, open, hang, hangs, best, bests, text, due, thought -/
def m_scr (h : jxH) : Prop := (∃ g, jx_at h 382 = jxL 4096 g) ∧ (∃ g, jx_at h 383 = jxL 4096 g) ∧ (∃ g, jx_at h 384 = jxL 13 g) ∧ m_rows h 385 12 386 ∧ (∀ i, i < 12 → ∃ g, jx_at h (386 + i) = jxI 0 12 g) ∧ (∃ f, ro_at h 399 f) ∧ (∃ g, jx_at h 400 = jxI 0 12 g) ∧ m_rows h 401 12 402 ∧ (∀ i, i < 12 → ∃ g, jx_at h (402 + i) = jxI 0 64 g) ∧ (∃ g, jx_at h 414 = jxI 0 12 g) ∧ m_rows h 415 12 416 ∧ (∀ i, i < 12 → ∃ g, jx_at h (416 + i) = jxI 0 64 g) ∧ (∃ g, jx_at h 428 = jxI 0 12 g) ∧ (∃ g, jx_at h 429 = jxI 0 64 g) ∧ (∃ g, jx_at h 436 = jxI 0 64 g) ∧ m_rows h 438 6 439 ∧ ∀ i, i < 6 → ∃ f, ro_at h (439 + i) f
def im_n (im : jG) : Nat := match im with
  | some q => q.2.1
  | none => 0
/-- the reference -/
def RS (h : jxH) (T : Nat → Int32) (t : jT) (sh : jH) (ss : jE) (c : jC) (im : jG) (p : jP) : Prop := (∃ at_ wrong texted dues fl fm ff kh : Int32, jx_at h 336 = m_obj (Int32.ofNat t.1) (Int32.ofNat t.2.1) (Int32.ofNat p.1) at_ wrong texted dues (Int32.ofNat c.1) fl fm ff kh (jk_b im.isSome) ∧ (im.isSome = true → kh = Int32.ofNat (im_n im))) ∧ m_told h T ∧ ro_at h 338 (tr_F t) ∧ m_tr h t ∧ m_sh h sh ∧ m_ss h ss ∧ m_crew h 437 c ∧ m_im h im ∧ m_tape h p ∧ m_scr h
-- frames
section
variable {h h' : jxH} {P : Nat → Prop} {a : Nat}
theorem wk_fr (F : Fr P h h') (hP : ∀ x, a ≤ x → x < a + 4 → ¬ P x) (H : wk_ok h a) : wk_ok h' a := by
  obtain ⟨⟨sz, sn, o⟩, ⟨g1, e1⟩, ⟨g2, e2⟩, g3, e3⟩ := H
  have k := fun x h1 h2 => F.2.2 x (hP x h1 h2)
  exact ⟨⟨sz, sn, (k a (by omega) (by omega)).trans o⟩, ⟨g1, (k _ (by omega) (by omega)).trans e1⟩, ⟨g2, (k _ (by omega) (by omega)).trans e2⟩, g3, (k _ (by omega) (by omega)).trans e3⟩
theorem tx_fr (F : Fr P h h') (hP : ∀ x, a ≤ x → x < a + 2 → ¬ P x) (H : tx_ok h a) : tx_ok h' a := by
  obtain ⟨⟨n, o⟩, g1, e1⟩ := H
  have k := fun x h1 h2 => F.2.2 x (hP x h1 h2)
  exact ⟨⟨n, (k a (by omega) (by omega)).trans o⟩, g1, (k _ (by omega) (by omega)).trans e1⟩
theorem sp_fr (F : Fr P h h') (hP : ∀ x, a ≤ x → x < a + 55 → ¬ P x) (H : sp_ok h a) : sp_ok h' a := by
  obtain ⟨o, w, ⟨Q, q1, q2⟩, ⟨R, r1, r2⟩, t⟩ := H
  have k := fun x h1 h2 => F.2.2 x (hP x h1 h2)
  refine ⟨(k a (by omega) (by omega)).trans o, wk_fr F (fun x h1 h2 => hP x (by omega) (by omega)) w, ⟨Q, (k _ (by omega) (by omega)).trans q1, q2⟩, ⟨R, (k _ (by omega) (by omega)).trans r1, r2⟩, fun i hi => ⟨tx_fr F (fun x h1 h2 => hP x (by omega) (by omega)) (t i hi).1, tx_fr F (fun x h1 h2 => hP x (by omega) (by omega)) (t i hi).2⟩⟩
theorem rk_fr (F : Fr P h h') (hP : ∀ x, a ≤ x → x < a + 8 → ¬ P x) (H : rk_ok h a) : rk_ok h' a := by
  obtain ⟨⟨u, l, i1, i2, i3, i4, i5, i6, o⟩, w, ⟨g1, e1⟩, ⟨g2, e2⟩, g3, e3⟩ := H
  have k := fun x h1 h2 => F.2.2 x (hP x h1 h2)
  exact ⟨⟨u, l, i1, i2, i3, i4, i5, i6, (k a (by omega) (by omega)).trans o⟩, wk_fr F (fun x h1 h2 => hP x (by omega) (by omega)) w, ⟨g1, (k _ (by omega) (by omega)).trans e1⟩, ⟨g2, (k _ (by omega) (by omega)).trans e2⟩, g3, (k _ (by omega) (by omega)).trans e3⟩
theorem sk_fr (F : Fr P h h') (hP : ∀ x, a ≤ x → x < a + 4 → ¬ P x) (H : st_ok h a) : st_ok h' a := by
  obtain ⟨⟨m, sg, o⟩, f, g⟩ := H
  exact ⟨⟨m, sg, st_fr F (hP a (by omega) (by omega)) o⟩, f, fo_fr F (fun x h1 h2 => hP x (by omega) (by omega)) g⟩
theorem se_fr (F : Fr P h h') (hP : ∀ x, a ≤ x → x < a + 77 → ¬ P x) (H : se_ok h a) : se_ok h' a := by
  obtain ⟨⟨i1, i2, i3, i4, i5, o⟩, ⟨Q, q1, q2⟩, s, p, t1, t2, fs⟩ := H
  have k := fun x h1 h2 => F.2.2 x (hP x h1 h2)
  refine ⟨⟨i1, i2, i3, i4, i5, (k a (by omega) (by omega)).trans o⟩, ⟨Q, (k _ (by omega) (by omega)).trans q1, q2⟩, sk_fr F (fun x h1 h2 => hP x (by omega) (by omega)) s, sp_fr F (fun x h1 h2 => hP x (by omega) (by omega)) p, tx_fr F (fun x h1 h2 => hP x (by omega) (by omega)) t1, tx_fr F (fun x h1 h2 => hP x (by omega) (by omega)) t2, fun i hi => ?_⟩
  obtain ⟨f, g⟩ := fs i hi
  exact ⟨f, fo_fr F (fun x h1 h2 => hP x (by omega) (by omega)) g⟩
theorem scr_fr (F : Fr P h h') (hP : ∀ x, c_scrP x → ¬ P x) (H : c_scr h) : c_scr h' := by
  obtain ⟨⟨f, g⟩, s, w, r, p, t, e⟩ := H
  exact ⟨⟨f, fo_fr F (fun x h1 h2 => hP x (by unfold c_scrP; omega)) g⟩, sk_fr F (fun x h1 h2 => hP x (by unfold c_scrP; omega)) s, wk_fr F (fun x h1 h2 => hP x (by unfold c_scrP; omega)) w, rk_fr F (fun x h1 h2 => hP x (by unfold c_scrP; omega)) r, sp_fr F (fun x h1 h2 => hP x (by unfold c_scrP; omega)) p, tx_fr F (fun x h1 h2 => hP x (by unfold c_scrP; omega)) t, se_fr F (fun x h1 h2 => hP x (by unfold c_scrP; omega)) e⟩
theorem told_fr {T : Nat → Int32} (F : Fr P h h') (hP : ¬ P 1) (H : c_told h T) : c_told h' T := by
  obtain ⟨G, e, q⟩ := H
  exact ⟨G, (F.2.2 1 hP).trans e, q⟩
theorem tr_fr {t : jT} (F : Fr P h h') (hP : ∀ x, 12 ≤ x → x < 174 → ¬ P x) (ht : t.2.1 ≤ 40) (H : c_tr h t) : c_tr h' t := by
  obtain ⟨o, ⟨Q, q1, q2⟩, s, k⟩ := H
  have e := fun x h1 h2 => F.2.2 x (hP x h1 h2)
  exact ⟨(e 12 (by omega) (by omega)).trans o, ⟨Q, (e 13 (by omega) (by omega)).trans q1, q2⟩, fun i hi => sk_fr F (fun x h1 h2 => hP x (by omega) (by omega)) (s i hi), fun i hi => ⟨st_fr F (hP _ (by omega) (by omega)) (k i hi).1, fo_fr F (fun x h1 h2 => hP x (by omega) (by omega)) (k i hi).2⟩⟩
theorem cr_fr {c : jC} (F : Fr P h h') (hP : ∀ x, a ≤ x → x < a + 4 → ¬ P x) (H : cr_at h a c) : cr_at h' a c := by
  obtain ⟨o, ⟨g1, e1, q1⟩, ⟨g2, e2, q2⟩, g3, e3, q3⟩ := H
  have k := fun x h1 h2 => F.2.2 x (hP x h1 h2)
  exact ⟨(k a (by omega) (by omega)).trans o, ⟨g1, (k _ (by omega) (by omega)).trans e1, q1⟩, ⟨g2, (k _ (by omega) (by omega)).trans e2, q2⟩, g3, (k _ (by omega) (by omega)).trans e3, q3⟩
theorem tp_fr {p : jP} (F : Fr P h h') (hP : ∀ x, 320 ≤ x → x < 323 → ¬ P x) (H : tp_at h p) : tp_at h' p := by
  obtain ⟨o, ⟨g1, e1, q1⟩, g2, e2⟩ := H
  have k := fun x h1 h2 => F.2.2 x (hP x h1 h2)
  exact ⟨(k 320 (by omega) (by omega)).trans o, ⟨g1, (k _ (by omega) (by omega)).trans e1, q1⟩, g2, (k _ (by omega) (by omega)).trans e2⟩
theorem im_fr {im : jG} (F : Fr P h h') (h0 : ¬ P 0) (hP : ∀ x, 329 ≤ x → x < 336 → ¬ P x) (H : c_im h im) : c_im h' im := by
  obtain ⟨o, ⟨f, q⟩, ⟨c, r⟩, k⟩ := H
  exact ⟨(F.2.2 0 h0).trans o, ⟨f, fo_fr F (fun x h1 h2 => hP x (by omega) (by omega)) q⟩, ⟨c, cr_fr F (fun x h1 h2 => hP x (by omega) (by omega)) r⟩, fun f c e => ⟨fo_fr F (fun x h1 h2 => hP x (by omega) (by omega)) (k f c e).1, cr_fr F (fun x h1 h2 => hP x (by omega) (by omega)) (k f c e).2⟩⟩
theorem dyn_fr {sh : jH} {ss : jE} (F : Fr P h h') (h3 : ¬ P 323) (h4 : ¬ P 324) (hP : ∀ x, 451 ≤ x → ¬ P x) (H : c_dyn h sh ss) : c_dyn h' sh ss := by
  obtain ⟨Q, R, q, r, n, a1, a2, a3⟩ := H
  refine ⟨Q, R, (F.2.2 323 h3).trans q, (F.2.2 324 h4).trans r, by rw [F.1]; exact n, fun i hi => ?_, fun i hi => ?_, a3⟩
  · rcases a1 i hi with b | ⟨f, b, e1, e2, e3, e4, e5⟩
    · exact Or.inl b
    · exact Or.inr ⟨f, b, e1, e2, e3, by rw [F.1]; exact e4, fo_fr F (fun x h1 h2 => hP x (by omega)) e5⟩
  · rcases a2 i hi with b | ⟨f, b, e1, e2, e3, e4, e5, g, e6, e7⟩
    · exact Or.inl b
    · exact Or.inr ⟨f, b, e1, e2, e3, by rw [F.1]; exact e4, (F.2.2 b (hP b (by omega))).trans e5, g, (F.2.2 _ (hP _ (by omega))).trans e6, e7⟩
/-- a run that writes within the scratch alone -/
theorem CS_scr {T : Nat → Int32} {t : jT} {sh : jH} {ss : jE} {c : jC} {im : jG} {p : jP} (ht : t.2.1 ≤ 40) (H : CS h T t sh ss c im p) (F : Fr P h h') (hP : ∀ x, P x → c_scrP x) (S : c_scr h') : CS h' T t sh ss c im p := by
  obtain ⟨h1, h2, h3, h4, h5, h6, h7, h8⟩ := H
  have n : ∀ x, ¬ c_scrP x → ¬ P x := fun x a b => a (hP x b)
  exact ⟨told_fr F (n _ (by unfold c_scrP; omega)) h1, fo_fr F (fun x a b => n x (by unfold c_scrP; omega)) h2, tr_fr F (fun x a b => n x (by unfold c_scrP; omega)) ht h3, dyn_fr F (n _ (by unfold c_scrP; omega)) (n _ (by unfold c_scrP; omega)) (fun x a => n x (by unfold c_scrP; omega)) h4, cr_fr F (fun x a b => n x (by unfold c_scrP; omega)) h5, im_fr F (n _ (by unfold c_scrP; omega)) (fun x a b => n x (by unfold c_scrP; omega)) h6, tp_fr F (fun x a b => n x (by unfold c_scrP; omega)) h7, S⟩
theorem CS_told {T T' : Nat → Int32} {t : jT} {sh : jH} {ss : jE} {c : jC} {im : jG} {p : jP} (ht : t.2.1 ≤ 40) (H : CS h T t sh ss c im p) (F : Fr (fun x => x = 1) h h') (S : c_told h' T') : CS h' T' t sh ss c im p := by
  obtain ⟨h1, h2, h3, h4, h5, h6, h7, h8⟩ := H
  exact ⟨S, fo_fr F (fun x a b => by omega) h2, tr_fr F (fun x a b => by omega) ht h3, dyn_fr F (by omega) (by omega) (fun x a => by omega) h4, cr_fr F (fun x a b => by omega) h5, im_fr F (by omega) (fun x a b => by omega) h6, tp_fr F (fun x a b => by omega) h7, scr_fr F (fun x a => by unfold c_scrP at a; omega) h8⟩
/-- the forest becomes another one, the trail too -/
theorem CS_tr {T : Nat → Int32} {t t' : jT} {sh : jH} {ss : jE} {c : jC} {im : jG} {p : jP} (H : CS h T t sh ss c im p) (F : Fr P h h') (hP : ∀ x, P x → 2 ≤ x ∧ x < 320) (G : fo_at h' 2 (tr_F t')) (S : c_tr h' t') (K : c_scr h') : CS h' T t' sh ss c im p := by
  obtain ⟨h1, h2, h3, h4, h5, h6, h7, h8⟩ := H
  have n : ∀ x, ¬ (2 ≤ x ∧ x < 320) → ¬ P x := fun x a b => a (hP x b)
  exact ⟨told_fr F (n _ (by omega)) h1, G, S, dyn_fr F (n _ (by omega)) (n _ (by omega)) (fun x a => n x (by omega)) h4, cr_fr F (fun x a b => n x (by omega)) h5, im_fr F (n _ (by omega)) (fun x a b => n x (by omega)) h6, tp_fr F (fun x a b => n x (by omega)) h7, K⟩
theorem CS_crew {T : Nat → Int32} {t : jT} {sh : jH} {ss : jE} {c c' : jC} {im : jG} {p : jP} (ht : t.2.1 ≤ 40) (H : CS h T t sh ss c im p) (F : Fr P h h') (hP : ∀ x, P x → 325 ≤ x ∧ x < 329) (S : cr_at h' 325 c') : CS h' T t sh ss c' im p := by
  obtain ⟨h1, h2, h3, h4, h5, h6, h7, h8⟩ := H
  have n : ∀ x, ¬ (325 ≤ x ∧ x < 329) → ¬ P x := fun x a b => a (hP x b)
  exact ⟨told_fr F (n _ (by omega)) h1, fo_fr F (fun x a b => n x (by omega)) h2, tr_fr F (fun x a b => n x (by omega)) ht h3, dyn_fr F (n _ (by omega)) (n _ (by omega)) (fun x a => n x (by omega)) h4, S, im_fr F (n _ (by omega)) (fun x a b => n x (by omega)) h6, tp_fr F (fun x a b => n x (by omega)) h7, scr_fr F (fun x a => n x (by unfold c_scrP at a; omega)) h8⟩
theorem CS_tape {T : Nat → Int32} {t : jT} {sh : jH} {ss : jE} {c : jC} {im : jG} {p p' : jP} (ht : t.2.1 ≤ 40) (H : CS h T t sh ss c im p) (F : Fr P h h') (hP : ∀ x, P x → 320 ≤ x ∧ x < 323) (S : tp_at h' p') : CS h' T t sh ss c im p' := by
  obtain ⟨h1, h2, h3, h4, h5, h6, h7, h8⟩ := H
  have n : ∀ x, ¬ (320 ≤ x ∧ x < 323) → ¬ P x := fun x a b => a (hP x b)
  exact ⟨told_fr F (n _ (by omega)) h1, fo_fr F (fun x a b => n x (by omega)) h2, tr_fr F (fun x a b => n x (by omega)) ht h3, dyn_fr F (n _ (by omega)) (n _ (by omega)) (fun x a => n x (by omega)) h4, cr_fr F (fun x a b => n x (by omega)) h5, im_fr F (n _ (by omega)) (fun x a b => n x (by omega)) h6, S, scr_fr F (fun x a => n x (by unfold c_scrP at a; omega)) h8⟩
end
