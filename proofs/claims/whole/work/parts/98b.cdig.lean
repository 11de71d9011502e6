/-! fewest(): the class -/
def dg_O (h : jxH) (S : dS) : Prop := ∃ i1 i2 : Int32, jx_at h 243 = jxO 3 [.ref 244, .ref 245, .ref 249, .ref 304, .ref 306, .int i1, .int i2, .int (Int32.ofNat S.1), .int (Int32.ofNat S.2.1), .int S.2.2]
def dg_I (h : jxH) (S : dS) : Prop := dg_O h S ∧ (∃ Q, jx_at h 244 = jxQ 4 4 Q ∧ ∀ i, i < 4 → Q i = some (308 + 3 * i)) ∧ ∃ m sg, st_at h 245 m sg
def dg_P (d x : Nat) : Prop := x = 243 ∨ x = 245 ∨ (308 + 3 * (d + 1) ≤ x ∧ x < 320)
def dg_s (S : dS) : Prop := S.1 ≤ 100 ∧ S.2.1 ≤ 100
theorem dg_note_s {S : dS} (h : dg_s S) {s d : Nat} (hs : s ≤ 100) (hd : d ≤ 100) (a : Int32) : dg_s (dg_note S s d a) := by
  unfold dg_note
  split
  · exact ⟨hs, hd⟩
  · exact h
section
variable {rc : Nat → Nat × (Nat → Int32)} {h h' : jxH} {σ : jSt} {P : Nat → Prop} {S : dS} {f : jF}
theorem dg_is (I : dg_O h S) : jx_is (jx_at h 243) 3 = true := by obtain ⟨i1, i2, o⟩ := I; rw [o]; rfl
theorem dg_g0 (I : dg_O h S) : jx_gR (jx_at h 243) 3 0 = some 244 := by obtain ⟨i1, i2, o⟩ := I; rw [o]; rfl
theorem dg_g1 (I : dg_O h S) : jx_gR (jx_at h 243) 3 1 = some 245 := by obtain ⟨i1, i2, o⟩ := I; rw [o]; rfl
theorem dg_g7 (I : dg_O h S) : jx_gI (jx_at h 243) 3 7 = some (Int32.ofNat S.1) := by obtain ⟨i1, i2, o⟩ := I; rw [o]; rfl
theorem dg_g8 (I : dg_O h S) : jx_gI (jx_at h 243) 3 8 = some (Int32.ofNat S.2.1) := by obtain ⟨i1, i2, o⟩ := I; rw [o]; rfl
theorem dg_g9 (I : dg_O h S) : jx_gI (jx_at h 243) 3 9 = some S.2.2 := by obtain ⟨i1, i2, o⟩ := I; rw [o]; rfl
theorem dg_level (I : dg_I h S) {i : Nat} (hi : i < 4) (d : Nat) : jx_C rc (d + 1) 263 [.ref 243, .int (Int32.ofNat i)] h = some (some (.ref (308 + 3 * i)), h) := by
  obtain ⟨O, ⟨Q, q1, q2⟩, -⟩ := I
  rw [je_263, if_pos (dg_is O), if_neg (jk_nn (by omega)), dg_g0 O, jk_bs, q1, show jx_len (jxQ 4 4 Q) = some 4 from rfl, jk_bs, if_neg (by rw [jk_le (by decide) (by omega)]; omega), jk_bs, q1, jk_aQ hi (by decide), jk_bs, q2 i hi, jk_mos]
theorem dg_level4 (I : dg_I h S) (d : Nat) : jx_C rc (d + 1) 263 [.ref 243, .int (Int32.ofNat 4)] h = some (some .null, h) := by
  obtain ⟨O, ⟨Q, q1, q2⟩, -⟩ := I
  rw [je_263, if_pos (dg_is O), if_neg (jk_nn (by omega)), dg_g0 O, jk_bs, q1, show jx_len (jxQ 4 4 Q) = some 4 from rfl, jk_bs, if_pos (by decide)]
theorem dg_I_fr (I : dg_I h S) (F : Fr P h h') (h1 : ¬ P 243) (h2 : ¬ P 244) (h3 : ¬ P 245) : dg_I h' S := by
  obtain ⟨⟨i1, i2, o⟩, ⟨Q, q1, q2⟩, m, sg, s⟩ := I
  exact ⟨⟨i1, i2, (F.2.2 _ h1).trans o⟩, ⟨Q, (F.2.2 _ h2).trans q1, q2⟩, m, sg, st_fr F h3 s⟩
theorem dg_note_at (I : dg_I h S) (hS : dg_s S) {s d : Nat} (hs : s ≤ 100) (hd : d ≤ 100) (a : Int32) : ∃ h', (∀ D, jx_C rc (D + 1) 267 [.ref 243, .int (Int32.ofNat s), .int (Int32.ofNat d), .int a] h = some (none, h')) ∧ dg_I h' (dg_note S s d a) ∧ Fr (fun x => x = 243) h h' := by
  obtain ⟨O, ⟨Q, q1, q2⟩, m, sg, st⟩ := I
  obtain ⟨i1, i2, o⟩ := id O
  obtain ⟨b1, b2⟩ := hS
  have pf : ∃ e1 e2 e3, jx_pF (jx_at h 243) 3 7 (.int (Int32.ofNat s)) = some e1 ∧ jx_pF e1 3 8 (.int (Int32.ofNat d)) = some e2 ∧ jx_pF e2 3 9 (.int a) = some e3 ∧ e3 = jxO 3 [.ref 244, .ref 245, .ref 249, .ref 304, .ref 306, .int i1, .int i2, .int (Int32.ofNat s), .int (Int32.ofNat d), .int a] := by
    rw [o]; exact ⟨_, _, _, rfl, rfl, rfl, rfl⟩
  obtain ⟨e1, e2, e3, p1, p2, p3, p4⟩ := pf
  have yes : dg_I (jx_set h 243 e3) (s, d, a) := ⟨⟨i1, i2, by rw [jk_at_self, p4]⟩, ⟨Q, (jk_at_ne _ _ (by decide)).trans q1, q2⟩, m, sg, (jk_at_ne _ _ (by decide)).trans st⟩
  unfold dg_note
  by_cases c1 : s < S.1
  · rw [if_pos (Or.inl c1)]
    refine ⟨jx_set h 243 e3, fun D => ?_, yes, Fr.one⟩
    rw [je_267, if_pos (dg_is O), dg_g7 O, jk_bs, if_pos (by rw [jk_lt (by omega) (by omega)]; exact c1), p1, jk_bs, jk_at_self, p2, jk_bs, jk_at_self, p3, jk_bs, jk_set_set, jk_set_set]
  · have st0 : ∀ D, jx_C rc (D + 1) 267 [.ref 243, .int (Int32.ofNat s), .int (Int32.ofNat d), .int a] h = _ := fun D => by
      rw [je_267, if_pos (dg_is O), dg_g7 O, jk_bs, if_neg (by rw [jk_lt (by omega) (by omega)]; exact c1), jk_bs]
    by_cases c2 : s = S.1
    · by_cases c3 : d < S.2.1
      · rw [if_pos (Or.inr ⟨c2, c3⟩)]
        refine ⟨jx_set h 243 e3, fun D => ?_, yes, Fr.one⟩
        rw [st0 D, if_pos (by rw [c2]), dg_g8 O, jk_bs, if_neg (by rw [jk_le (by omega) (by omega)]; omega), p1, jk_bs, jk_at_self, p2, jk_bs, jk_at_self, p3, jk_bs, jk_set_set, jk_set_set]
      · rw [if_neg (by omega)]
        refine ⟨h, fun D => ?_, ⟨O, ⟨Q, q1, q2⟩, m, sg, st⟩, Fr.rfl⟩
        rw [st0 D, if_pos (by rw [c2]), dg_g8 O, jk_bs, if_pos (by rw [jk_le (by omega) (by omega)]; omega)]
    · rw [if_neg (by omega)]
      refine ⟨h, fun D => ?_, ⟨O, ⟨Q, q1, q2⟩, m, sg, st⟩, Fr.rfl⟩
      rw [st0 D, if_neg (by rw [jk_inj (by omega) (by omega)]; exact c2)]
/-- what deepen() does on the levels below -/
def dg_D (rc : Nat → Nat × (Nat → Int32)) (m : Nat) : Prop := ∀ (d : Nat) (a : Int32) (f : jF) (S : dS) (h : jxH), d + m ≤ 4 → jf_W f → dg_I h S → dg_s S → (d < 4 → fo_at h (308 + 3 * d) f) → (∀ i, d < i → i < 4 → ∃ g, fo_at h (308 + 3 * i) g) → ∃ h', (∀ D, jx_C rc (D + m + 10) 266 [.ref 243, .int (Int32.ofNat d), .int (Int32.ofNat (d + m)), .int a] h = some (none, h')) ∧ dg_I h' (dg_c m d a f S) ∧ Fr (dg_P d) h h' ∧ (∀ i, d < i → i < 4 → ∃ g, fo_at h' (308 + 3 * i) g) ∧ dg_s (dg_c m d a f S)
def dg_v (d : Nat) : Value := if d + 1 < 4 then .ref (308 + 3 * (d + 1)) else .null
theorem dg_P_up {d x : Nat} (h : dg_P (d + 1) x) : dg_P d x := by unfold dg_P at *; omega
theorem dg_lvl {d : Nat} (F : Fr (dg_P d) h h') (G : fo_at h (308 + 3 * d) f) (hd : d < 4) : fo_at h' (308 + 3 * d) f := fo_fr F (fun x a b => by unfold dg_P; omega) G
theorem dg_loop (hr : jk_rom rc) {m d : Nat} (ih : dg_D rc m) (hd : d + (m + 1) ≤ 4) (a : Int32) (W : jf_W f) : ∀ (r k : Nat) (S : dS) (h : jxH), k + r = 12 → dg_I h S → dg_s S → fo_at h (308 + 3 * d) f → (∀ i, d < i → i < 4 → ∃ g, fo_at h (308 + 3 * i) g) → ∃ h', (∀ D, jb_266 rc (D + m + 10) 29 [(0, .ref 243), (1, .int (Int32.ofNat d)), (2, .int (Int32.ofNat (d + (m + 1)))), (3, .int a), (4, .ref (308 + 3 * d)), (5, dg_v d), (6, .int (Int32.ofNat k))] [] h = some (none, h')) ∧ dg_I h' (dg_l (fun p g S => dg_c m (d + 1) (dg_b d a p) g (dg_note S (bc g.2.2) (d + 1) (dg_b d a p))) f r k S) ∧ Fr (dg_P d) h h' ∧ (∀ i, d < i → i < 4 → ∃ g, fo_at h' (308 + 3 * i) g) ∧ dg_s (dg_l (fun p g S => dg_c m (d + 1) (dg_b d a p) g (dg_note S (bc g.2.2) (d + 1) (dg_b d a p))) f r k S)
  | 0, k, S, h, e, I, hS, G, L => by
    obtain rfl : k = 12 := by omega
    refine ⟨h, fun D => ?_, I, Fr.rfl, L, hS⟩
    unfold dg_v
    split
    · rw [je_266_29, if_pos (by decide)]
    · rw [je_266_29b, if_pos (by decide)]
  | r + 1, k, S, h, e, I, hS, G, L => by
    have hk : k < 12 := by omega
    have b12 := bc_le f.2.2
    unfold dg_l
    -- nothing at this place
    have skip : ∀ {h1 : jxH}, dg_I h1 S → Fr (dg_P d) h h1 → (∀ i, d < i → i < 4 → ∃ g, fo_at h1 (308 + 3 * i) g) → (∀ D, jb_266 rc (D + m + 10) 29 [(0, .ref 243), (1, .int (Int32.ofNat d)), (2, .int (Int32.ofNat (d + (m + 1)))), (3, .int a), (4, .ref (308 + 3 * d)), (5, dg_v d), (6, .int (Int32.ofNat k))] [] h = jb_266 rc (D + m + 10) 29 [(0, .ref 243), (1, .int (Int32.ofNat d)), (2, .int (Int32.ofNat (d + (m + 1)))), (3, .int a), (4, .ref (308 + 3 * d)), (5, dg_v d), (6, .int (Int32.ofNat (k + 1)))] [] h1) → dg_n f k = none → ∃ h', (∀ D, jb_266 rc (D + m + 10) 29 [(0, .ref 243), (1, .int (Int32.ofNat d)), (2, .int (Int32.ofNat (d + (m + 1)))), (3, .int a), (4, .ref (308 + 3 * d)), (5, dg_v d), (6, .int (Int32.ofNat k))] [] h = some (none, h')) ∧ dg_I h' (dg_l (fun p g S => dg_c m (d + 1) (dg_b d a p) g (dg_note S (bc g.2.2) (d + 1) (dg_b d a p))) f r (k + 1) (match dg_n f k with
        | some g => dg_c m (d + 1) (dg_b d a k) g (dg_note S (bc g.2.2) (d + 1) (dg_b d a k))
        | none => S)) ∧ Fr (dg_P d) h h' ∧ (∀ i, d < i → i < 4 → ∃ g, fo_at h' (308 + 3 * i) g) ∧ dg_s (dg_l (fun p g S => dg_c m (d + 1) (dg_b d a p) g (dg_note S (bc g.2.2) (d + 1) (dg_b d a p))) f r (k + 1) (match dg_n f k with
        | some g => dg_c m (d + 1) (dg_b d a k) g (dg_note S (bc g.2.2) (d + 1) (dg_b d a k))
        | none => S)) := fun {h1} I1 F1 L1 st0 q => by
      rw [q]
      obtain ⟨h2, u1, u2, u3, u4, u5⟩ := dg_loop hr ih hd a W r (k + 1) S h1 (by omega) I1 hS (dg_lvl F1 G (by omega)) L1
      exact ⟨h2, fun D => (st0 D).trans (u1 D), u2, F1.trans u3, u4, u5⟩
    by_cases c1 : bt f.2.2 k = true
    · obtain ⟨O, LQ, m0, sg0, s0⟩ := id I
      obtain ⟨h1, t1, t2, t3⟩ := st_shrink (rc := rc) hr s0 G W.1 (by omega) hk
      have F1 : Fr (dg_P d) h h1 := t3.mono fun x q => by unfold dg_P; omega
      have O1 : dg_O h1 S := by obtain ⟨i1, i2, o⟩ := O; exact ⟨i1, i2, (t3.2.2 _ (by decide)).trans o⟩
      have I1 : dg_I h1 S := ⟨O1, by obtain ⟨Q, q1, q2⟩ := LQ; exact ⟨Q, (t3.2.2 _ (by decide)).trans q1, q2⟩, _, _, t2⟩
      have L1 : ∀ i, d < i → i < 4 → ∃ g, fo_at h1 (308 + 3 * i) g := fun i h1 h2 => by obtain ⟨g, q⟩ := L i h1 h2; exact ⟨g, fo_fr t3 (fun x a b => by omega) q⟩
      have G1 := dg_lvl F1 G (by omega)
      by_cases c2 : jf_ref f false (jn_sk f k, Int32.ofNat k, 0, 0, 0) = 0
      · have hn : dg_n f k = some (jf_act f (jn_sk f k, Int32.ofNat k, 0, 0, 0)) := by unfold dg_n; rw [if_pos ⟨c1, c2⟩]
        have sz := jn_size W.1 (jn_sk_3 f k) hk c2
        obtain ⟨W2, l1, l2, -⟩ := dg_n_W W hk hn
        rw [hn]
        dsimp only
        generalize hg : jf_act f (jn_sk f k, Int32.ofNat k, 0, 0, 0) = g at *
        -- from row 58 on
        have r58 : ∀ s2 : Nat, bc f.2.2 - s2 = bc g.2.2 → s2 ≤ bc f.2.2 → ∃ h2, (∀ D, jb_266 rc (D + m + 10) 58 [(0, .ref 243), (1, .int (Int32.ofNat d)), (2, .int (Int32.ofNat (d + (m + 1)))), (3, .int a), (4, .ref (308 + 3 * d)), (5, dg_v d), (6, .int (Int32.ofNat k)), (7, .int (dg_b d a k))] [.int (Int32.ofNat s2), .int (Int32.ofNat (bc f.2.2)), .ref 243] h1 = some (none, h2)) ∧ dg_I h2 (dg_l (fun p g S => dg_c m (d + 1) (dg_b d a p) g (dg_note S (bc g.2.2) (d + 1) (dg_b d a p))) f r (k + 1) (dg_c m (d + 1) (dg_b d a k) g (dg_note S (bc g.2.2) (d + 1) (dg_b d a k)))) ∧ Fr (dg_P d) h1 h2 ∧ (∀ i, d < i → i < 4 → ∃ g, fo_at h2 (308 + 3 * i) g) ∧ dg_s (dg_l (fun p g S => dg_c m (d + 1) (dg_b d a p) g (dg_note S (bc g.2.2) (d + 1) (dg_b d a p))) f r (k + 1) (dg_c m (d + 1) (dg_b d a k) g (dg_note S (bc g.2.2) (d + 1) (dg_b d a k)))) := fun s2 hs2 hs3 => by
          obtain ⟨h2, n1, n2, n3⟩ := dg_note_at (rc := rc) I1 hS (s := bc g.2.2) (d := d + 1) (by omega) (by omega) (dg_b d a k)
          have hS2 := dg_note_s hS (show bc g.2.2 ≤ 100 by omega) (show d + 1 ≤ 100 by omega) (dg_b d a k)
          have F2 : Fr (dg_P d) h1 h2 := n3.mono fun x q => by unfold dg_P; omega
          have L2 : ∀ i, d < i → i < 4 → ∃ g, fo_at h2 (308 + 3 * i) g := fun i h1 h2 => by obtain ⟨g, q⟩ := L1 i h1 h2; exact ⟨g, fo_fr n3 (fun x a b => by omega) q⟩
          have G2 := dg_lvl F2 G1 (by omega)
          generalize hT : dg_note S (bc g.2.2) (d + 1) (dg_b d a k) = T at *
          cases m with
          | zero =>
            obtain ⟨h3, u1, u2, u3, u4, u5⟩ := dg_loop hr ih hd a W r (k + 1) T h2 (by omega) n2 hS2 G2 L2
            refine ⟨h3, fun D => ?_, u2, F2.trans u3, u4, u5⟩
            have u1' := u1 D
            unfold dg_v at u1' ⊢
            split
            · rename_i c
              rw [if_pos c] at u1'
              rw [je_266_58, jk_subN hs3, hs2, jk_succ, n1, jk_cV, if_pos (by rw [jk_le (by omega) (by omega)]; omega), jk_succ]
              exact u1'
            · rename_i c
              rw [if_neg c] at u1'
              rw [je_266_58b, jk_subN hs3, hs2, jk_succ, n1, jk_cV, jk_succ]
              exact u1'
          | succ m =>
            have d3 : d + 1 < 4 := by omega
            obtain ⟨g0, G0⟩ := L2 (d + 1) (by omega) d3
            obtain ⟨h3, v1, v2, v3⟩ := fo_follow (rc := rc) G0 G2 (Or.inr (by omega))
            have I3 := dg_I_fr n2 v3 (fun z => by have := z.1; omega) (fun z => by have := z.1; omega) (fun z => by have := z.1; omega)
            have s3 : st_at h3 245 (jn_sk f k, Int32.ofNat k, 0, 0, 0) sg0 := st_fr v3 (fun z => by have := z.1; omega) (st_fr n3 (by decide) t2)
            obtain ⟨h4, w1, w2, w3⟩ := st_act (rc := rc) s3 v2 W.1 (Or.inl (by omega)) c2
            rw [hg] at w2
            have I4 := dg_I_fr I3 w3 (fun z => by have := z.1; omega) (fun z => by have := z.1; omega) (fun z => by have := z.1; omega)
            have F4 : Fr (dg_P d) h2 h4 := (v3.mono fun x q => by have := q.1; have := q.2; unfold dg_P; omega).trans (w3.mono fun x q => by have := q.1; have := q.2; unfold dg_P; omega)
            have L4 : ∀ i, d + 1 < i → i < 4 → ∃ g, fo_at h4 (308 + 3 * i) g := fun i h1 h2 => by
              obtain ⟨g, q⟩ := L2 i (by omega) h2
              exact ⟨g, fo_fr w3 (fun x a b z => by have := z.2; omega) (fo_fr v3 (fun x a b z => by have := z.2; omega) q)⟩
            obtain ⟨h5, x1, x2, x3, x4, x5⟩ := ih (d + 1) (dg_b d a k) g T h4 (by omega) W2 I4 hS2 (fun _ => w2) L4
            have F5 : Fr (dg_P d) h4 h5 := x3.mono fun x q => dg_P_up q
            have L5 : ∀ i, d < i → i < 4 → ∃ g, fo_at h5 (308 + 3 * i) g := fun i h1 h2 => by
              by_cases z : i = d + 1
              · subst z; exact ⟨g, dg_lvl x3 w2 d3⟩
              · exact x4 i (by omega) h2
            have G5 := dg_lvl F5 (dg_lvl F4 G2 (by omega)) (by omega)
            obtain ⟨h6, u1, u2, u3, u4, u5⟩ := dg_loop hr ih hd a W r (k + 1) _ h5 (by omega) x2 x5 G5 L5
            refine ⟨h6, fun D => ?_, u2, F2.trans (F4.trans (F5.trans u3)), u4, u5⟩
            have u1' := u1 D
            have ev : dg_v d = .ref (308 + 3 * (d + 1)) := by unfold dg_v; rw [if_pos d3]
            rw [ev] at u1' ⊢
            have x1' := x1 D
            rw [show d + 1 + (m + 1) = d + (m + 1 + 1) by omega] at x1'
            rw [je_266_58, jk_subN hs3, hs2, jk_succ, n1, jk_cV, if_neg (by rw [jk_le (by omega) (by omega)]; omega), v1, jk_cV, dg_g1 I3.1, jk_bs, w1, jk_cV, x1', jk_cV, jk_succ]
            exact u1'
        by_cases k0 : jn_sk f k = 0
        · rw [if_pos k0] at sz
          obtain ⟨h2, y1, y2, y3, y4, y5⟩ := r58 1 (by omega) (by omega)
          refine ⟨h2, fun D => ?_, y2, F1.trans y3, y4, y5⟩
          have y1' := y1 D
          unfold dg_b dg_v at y1'
          unfold dg_v
          by_cases d0 : d = 0
          · subst d0
            rw [if_pos rfl] at y1'
            rw [if_pos (by decide)] at y1' ⊢
            rw [je_266_29, if_neg (jk_n12 hk), fo_has G, jk_cI, jk_if0, jF_has_of hk, if_pos c1, dg_g1 O, jk_bs, t1, jk_cI, jk_if0, if_pos (decide_eq_true c2), if_pos (show Int32.ofNat 0 = 0 from rfl), fo_size G1 W.1.s, jk_cI, dg_g1 O1, jk_bs, st_g0 t2, jk_bs, if_pos k0]
            exact y1'
          · rw [if_neg d0] at y1'
            have x0 : ¬ Int32.ofNat d = 0 := by rw [jk_0 (by omega)]; exact d0
            split
            · rename_i c
              rw [if_pos c] at y1'
              rw [je_266_29, if_neg (jk_n12 hk), fo_has G, jk_cI, jk_if0, jF_has_of hk, if_pos c1, dg_g1 O, jk_bs, t1, jk_cI, jk_if0, if_pos (decide_eq_true c2), if_neg x0, fo_size G1 W.1.s, jk_cI, dg_g1 O1, jk_bs, st_g0 t2, jk_bs, if_pos k0]
              exact y1'
            · rename_i c
              rw [if_neg c] at y1'
              rw [je_266_29b, if_neg (jk_n12 hk), fo_has G, jk_cI, jk_if0, jF_has_of hk, if_pos c1, dg_g1 O, jk_bs, t1, jk_cI, jk_if0, if_pos (decide_eq_true c2), if_neg x0, fo_size G1 W.1.s, jk_cI, dg_g1 O1, jk_bs, st_g0 t2, jk_bs, if_pos k0]
              exact y1'
        · rw [if_neg k0] at sz
          obtain ⟨h2, y1, y2, y3, y4, y5⟩ := r58 2 (by omega) (by omega)
          refine ⟨h2, fun D => ?_, y2, F1.trans y3, y4, y5⟩
          have y1' := y1 D
          unfold dg_b dg_v at y1'
          unfold dg_v
          by_cases d0 : d = 0
          · subst d0
            rw [if_pos rfl] at y1'
            rw [if_pos (by decide)] at y1' ⊢
            rw [je_266_29, if_neg (jk_n12 hk), fo_has G, jk_cI, jk_if0, jF_has_of hk, if_pos c1, dg_g1 O, jk_bs, t1, jk_cI, jk_if0, if_pos (decide_eq_true c2), if_pos (show Int32.ofNat 0 = 0 from rfl), fo_size G1 W.1.s, jk_cI, dg_g1 O1, jk_bs, st_g0 t2, jk_bs, if_neg k0]
            exact y1'
          · rw [if_neg d0] at y1'
            have x0 : ¬ Int32.ofNat d = 0 := by rw [jk_0 (by omega)]; exact d0
            split
            · rename_i c
              rw [if_pos c] at y1'
              rw [je_266_29, if_neg (jk_n12 hk), fo_has G, jk_cI, jk_if0, jF_has_of hk, if_pos c1, dg_g1 O, jk_bs, t1, jk_cI, jk_if0, if_pos (decide_eq_true c2), if_neg x0, fo_size G1 W.1.s, jk_cI, dg_g1 O1, jk_bs, st_g0 t2, jk_bs, if_neg k0]
              exact y1'
            · rename_i c
              rw [if_neg c] at y1'
              rw [je_266_29b, if_neg (jk_n12 hk), fo_has G, jk_cI, jk_if0, jF_has_of hk, if_pos c1, dg_g1 O, jk_bs, t1, jk_cI, jk_if0, if_pos (decide_eq_true c2), if_neg x0, fo_size G1 W.1.s, jk_cI, dg_g1 O1, jk_bs, st_g0 t2, jk_bs, if_neg k0]
              exact y1'
      · refine skip I1 F1 L1 (fun D => ?_) (by unfold dg_n; rw [if_neg (fun z => c2 z.2)])
        unfold dg_v
        split
        · rw [je_266_29, if_neg (jk_n12 hk), fo_has G, jk_cI, jk_if0, jF_has_of hk, if_pos c1, dg_g1 O, jk_bs, t1, jk_cI, jk_if0, if_neg (fun z => c2 (of_decide_eq_true z)), jk_succ]
        · rw [je_266_29b, if_neg (jk_n12 hk), fo_has G, jk_cI, jk_if0, jF_has_of hk, if_pos c1, dg_g1 O, jk_bs, t1, jk_cI, jk_if0, if_neg (fun z => c2 (of_decide_eq_true z)), jk_succ]
    · refine skip I Fr.rfl L (fun D => ?_) (by unfold dg_n; rw [if_neg (fun z => c1 z.1)])
      unfold dg_v
      split
      · rw [je_266_29, if_neg (jk_n12 hk), fo_has G, jk_cI, jk_if0, jF_has_of hk, if_neg c1, jk_succ]
      · rw [je_266_29b, if_neg (jk_n12 hk), fo_has G, jk_cI, jk_if0, jF_has_of hk, if_neg c1, jk_succ]
theorem jk_sublt {a b c : Nat} (ha : a < 1000) (hb : b < 1000) (hc : c < 1000) : (Int32.ofNat a - Int32.ofNat b < Int32.ofNat c) ↔ a < b + c := by
  rw [Int32.lt_iff_toInt_lt, Int32.toInt_sub, jk_int (by omega), jk_int (by omega), jk_int (by omega), Int.bmod_eq_of_le (by omega) (by omega)]
  omega
theorem dg_deepen (hr : jk_rom rc) : ∀ m, dg_D rc m
  | 0 => fun d a f S h hd W I hS G L => by
    refine ⟨h, fun D => ?_, I, Fr.rfl, L, hS⟩
    by_cases d4 : d < 4
    · rw [je_266, dg_level I d4, jk_cRs, jk_mos, if_pos (by rw [jk_le (by omega) (by omega)]; omega)]
    · obtain rfl : d = 4 := by omega
      rw [je_266, dg_level4 I, jk_cRn, jk_mon]
  | m + 1 => fun d a f S h hd W I hS G L => by
    have d4 : d < 4 := by omega
    have G1 := G d4
    have b12 := bc_le f.2.2
    have st0 : ∀ D, jx_C rc (D + (m + 1) + 10) 266 [.ref 243, .int (Int32.ofNat d), .int (Int32.ofNat (d + (m + 1))), .int a] h = _ := fun D => by
      rw [je_266, dg_level I d4, jk_cRs, jk_mos, if_neg (by rw [jk_le (by omega) (by omega)]; omega), fo_size G1 W.1.s, jk_cI, dg_g7 I.1, jk_bs, jk_subN (show d ≤ d + (m + 1) by omega), show (2 : Int32) = Int32.ofNat 2 from rfl, ← Int32.ofNat_mul]
    have cnd : (Int32.ofNat (bc f.2.2) - Int32.ofNat (2 * (d + (m + 1) - d)) < Int32.ofNat S.1) ↔ ¬ S.1 + 2 * (m + 1) ≤ bc f.2.2 := by
      obtain ⟨s1, s2⟩ := hS
      rw [jk_sublt (by omega) (by omega) (by omega)]; omega
    unfold dg_c
    by_cases c : S.1 + 2 * (m + 1) ≤ bc f.2.2
    · rw [if_pos c]
      refine ⟨h, fun D => ?_, I, Fr.rfl, L, hS⟩
      rw [st0 D, if_neg (fun z => cnd.mp z c)]
    · rw [if_neg c]
      obtain ⟨h1, r1, r2, r3, r4, r5⟩ := dg_loop (rc := rc) hr (dg_deepen hr m) hd a W 12 0 S h (by omega) I hS G1 L
      refine ⟨h1, fun D => ?_, r2, r3, r4, r5⟩
      have r1' := r1 D
      unfold dg_v at r1'
      rw [st0 D, if_pos (cnd.mpr c), jk_succ]
      by_cases d3 : d + 1 < 4
      · rw [if_pos d3] at r1'
        rw [dg_level I d3, jk_cRs, jk_mos]
        exact r1'
      · rw [if_neg d3] at r1'
        rw [show d + 1 = 4 by omega, dg_level4 I, jk_cRn, jk_mon]
        exact r1'
def op_fewest (σ : jSt) (n w : Int32) : Int32 × jSt := if jp_hi n 4 = true then (if jp_hi w 2 = true then ((if w = 0 then Int32.ofNat (dg (sF σ) (pn n)).1 else if w = 1 then Int32.ofNat (dg (sF σ) (pn n)).2.1 else (dg (sF σ) (pn n)).2.2), σ) else er σ 1) else er σ 1
theorem se_I (h : jxH) (H : se_ok h 243) : (∃ Q, jx_at h 244 = jxQ 4 4 Q ∧ ∀ i, i < 4 → Q i = some (308 + 3 * i)) ∧ (∃ m sg, st_at h 245 m sg) ∧ ∀ i, i < 4 → ∃ f, fo_at h (308 + 3 * i) f := by
  obtain ⟨-, Q, s, -, -, -, fs⟩ := H
  exact ⟨Q, s.1, fs⟩
theorem cc_se (C : CSt h σ) (A : AWt σ) (F : Fr (fun x => x = 243 ∨ (245 ≤ x ∧ x < 249) ∨ (308 ≤ x ∧ x < 320)) h h') (hO : ∃ i1 i2 i3 i4 i5 : Int32, jx_at h' 243 = jxO 3 [.ref 244, .ref 245, .ref 249, .ref 304, .ref 306, .int i1, .int i2, .int i3, .int i4, .int i5]) (hs : ∃ m sg, st_at h' 245 m sg) (hg : ∃ f, fo_at h' 246 f) (hf : ∀ i, i < 4 → ∃ f, fo_at h' (308 + 3 * i) f) : CSt h' σ ∧ cF h h' := by
  refine ⟨CS_scr A.tr.2.1 C F (fun x q => Or.inr ⟨by omega, by omega⟩) ?_, cF.of F (fun x q => by omega)⟩
  obtain ⟨⟨f, g⟩, s, w, r, p, t, e⟩ := C.scr
  have n : ∀ x, ¬ (x = 243 ∨ (245 ≤ x ∧ x < 249) ∨ (308 ≤ x ∧ x < 320)) → ¬ (x = 243 ∨ (245 ≤ x ∧ x < 249) ∨ (308 ≤ x ∧ x < 320)) := fun x a => a
  obtain ⟨-, ⟨Q, q1, q2⟩, -, p2, t1, t2, -⟩ := e
  exact ⟨⟨f, fo_fr F (fun x a b => n x (by omega)) g⟩, sk_fr F (fun x a b => n x (by omega)) s, wk_fr F (fun x a b => n x (by omega)) w, rk_fr F (fun x a b => n x (by omega)) r, sp_fr F (fun x a b => n x (by omega)) p, tx_fr F (fun x a b => n x (by omega)) t, hO, ⟨Q, (F.2.2 _ (n _ (by omega))).trans q1, q2⟩, ⟨hs, hg⟩, sp_fr F (fun x a b => n x (by omega)) p2, tx_fr F (fun x a b => n x (by omega)) t1, tx_fr F (fun x a b => n x (by omega)) t2, hf⟩
/-- begin() -/
theorem dg_begin {S : dS} (I : dg_I h S) {f : jF} (G : fo_at h 2 f) (L : ∃ g, fo_at h 308 g) : ∃ h', (∀ D, jx_C rc (D + 2) 264 [.ref 243, .ref 2] h = some (none, h')) ∧ dg_I h' S ∧ fo_at h' 308 f ∧ Fr (jI 308 3) h h' := by
  obtain ⟨g, L⟩ := L
  obtain ⟨h1, r1, r2, r3⟩ := fo_follow (rc := rc) L G (Or.inr (by omega))
  refine ⟨h1, fun D => ?_, dg_I_fr I r3 (fun z => by have := z.1; omega) (fun z => by have := z.1; omega) (fun z => by have := z.1; omega), r2, r3⟩
  rw [je_264, if_pos (dg_is I.1), show (0 : Int32) = Int32.ofNat 0 from rfl, dg_level I (by decide), jk_cRs, jk_mos, r1, jk_cV]
theorem cc_dig (hr : jk_rom rc) (C : CSt h σ) (A : AWt σ) {n : Nat} (hn : n ≤ 4) : ∃ h', (∀ D, jx_C rc (D + 17) 265 [.ref 243, .ref 2, .int (Int32.ofNat n)] h = some (none, h')) ∧ CSt h' σ ∧ cF h h' ∧ dg_O h' (dg (sF σ) n) := by
  obtain ⟨-, -, -, -, -, -, E⟩ := C.scr
  obtain ⟨q1, q2, q3⟩ := se_I h E
  obtain ⟨⟨i1, i2, i3, i4, i5, o⟩, -, ⟨-, ⟨fa, ga⟩⟩, -⟩ := id E
  have b12 := bc_le (sF σ).2.2
  -- begin() doesn't look at the numbers
  have H0 : ∃ h1, (∀ D, jx_C rc (D + 2) 264 [.ref 243, .ref 2] h = some (none, h1)) ∧ fo_at h1 308 (sF σ) ∧ Fr (jI 308 3) h h1 := by
    obtain ⟨g, L⟩ := q3 0 (by decide)
    obtain ⟨h1, r1, r2, r3⟩ := fo_follow (rc := rc) L C.F (Or.inr (by omega))
    refine ⟨h1, fun D => ?_, r2, r3⟩
    obtain ⟨Q, qa, qb⟩ := q1
    have is3 : jx_is (jx_at h 243) 3 = true := by rw [o]; rfl
    have g0 : jx_gR (jx_at h 243) 3 0 = some 244 := by rw [o]; rfl
    rw [je_264, if_pos is3, je_263, if_pos is3, if_neg (by decide), g0, jk_bs, qa, show jx_len (jxQ 4 4 Q) = some 4 from rfl, jk_bs, if_neg (by decide), jk_bs, qa, show (0 : Int32) = Int32.ofNat 0 from rfl, jk_aQ (by decide) (by decide), jk_bs, qb 0 (by decide), jk_mos, jk_cRs, jk_mos, r1, jk_cV]
  obtain ⟨h1, r1, G1, F1⟩ := H0
  have o1 : jx_at h1 243 = _ := (F1.2.2 243 (fun z => by have := z.1; omega)).trans o
  have GF : fo_at h1 2 (sF σ) := fo_fr F1 (fun x a b z => by have := z.1; omega) C.F
  have F2 : Fr (fun x => x = 243) h1 (jx_set h1 243 (jxO 3 [.ref 244, .ref 245, .ref 249, .ref 304, .ref 306, .int i1, .int i2, .int (Int32.ofNat (bc (sF σ).2.2)), .int 0, .int (-1)])) := Fr.one
  have I2 : dg_I (jx_set h1 243 (jxO 3 [.ref 244, .ref 245, .ref 249, .ref 304, .ref 306, .int i1, .int i2, .int (Int32.ofNat (bc (sF σ).2.2)), .int 0, .int (-1)])) (bc (sF σ).2.2, 0, -1) := by
    refine ⟨⟨i1, i2, jk_at_self ..⟩, ?_, ?_⟩
    · obtain ⟨Q, qa, qb⟩ := q1
      exact ⟨Q, (F2.2.2 _ (by decide)).trans ((F1.2.2 _ (fun z => by have := z.1; omega)).trans qa), qb⟩
    · obtain ⟨m, sg, s⟩ := q2
      exact ⟨m, sg, st_fr F2 (by decide) (st_fr F1 (fun z => by have := z.1; omega) s)⟩
  have L2 : ∀ i, 0 < i → i < 4 → ∃ g, fo_at (jx_set h1 243 (jxO 3 [.ref 244, .ref 245, .ref 249, .ref 304, .ref 306, .int i1, .int i2, .int (Int32.ofNat (bc (sF σ).2.2)), .int 0, .int (-1)])) (308 + 3 * i) g := fun i h1 h2 => by
    obtain ⟨g, q⟩ := q3 i h2
    exact ⟨g, fo_fr F2 (fun x a b => by omega) (fo_fr F1 (fun x a b z => by have := z.2; omega) q)⟩
  obtain ⟨h3, u1, u2, u3, u4, -⟩ := dg_deepen (rc := rc) hr n 0 (-1) (sF σ) (bc (sF σ).2.2, 0, -1) _ (by omega) A.W I2 ⟨by show bc (sF σ).2.2 ≤ 100; omega, by show 0 ≤ 100; omega⟩ (fun _ => fo_fr F2 (fun x a b => by omega) G1) L2
  have FA : Fr (fun x => x = 243 ∨ (245 ≤ x ∧ x < 249) ∨ (308 ≤ x ∧ x < 320)) h h3 := ((F1.mono fun x q => by have := q.1; have := q.2; omega).trans (F2.mono fun x q => by omega)).trans (u3.mono fun x q => by unfold dg_P at q; omega)
  have G0 : fo_at h3 308 (sF σ) := fo_fr u3 (fun x a b => by unfold dg_P; omega) (fo_fr F2 (fun x a b => by omega) G1)
  obtain ⟨⟨j1, j2, oo⟩, -, ⟨m', sg', s'⟩⟩ := id u2
  have ga3 : fo_at h3 246 fa := fo_fr u3 (fun x a b => by unfold dg_P; omega) (fo_fr F2 (fun x a b => by omega) (fo_fr F1 (fun x a b z => by have := z.1; omega) ga))
  obtain ⟨C3, FC⟩ := cc_se C A FA ⟨j1, j2, _, _, _, oo⟩ ⟨m', sg', s'⟩ ⟨fa, ga3⟩ (fun i hi => by
    by_cases z : i = 0
    · subst z; exact ⟨_, G0⟩
    · exact u4 i (by omega) hi)
  refine ⟨h3, fun D => ?_, C3, FC, u2.1⟩
  have is3 : jx_is (jx_at h 243) 3 = true := by rw [o]; rfl
  rw [je_265, if_pos is3, r1, jk_cV, fo_size GF A.B.s, jk_cI, o1]
  rw [show jx_pF (jxO 3 [.ref 244, .ref 245, .ref 249, .ref 304, .ref 306, .int i1, .int i2, .int i3, .int i4, .int i5]) 3 7 (.int (Int32.ofNat (bc (sF σ).2.2))) = some (jxO 3 [.ref 244, .ref 245, .ref 249, .ref 304, .ref 306, .int i1, .int i2, .int (Int32.ofNat (bc (sF σ).2.2)), .int i4, .int i5]) from rfl, jk_bs, jk_at_self, show jx_pF (jxO 3 [.ref 244, .ref 245, .ref 249, .ref 304, .ref 306, .int i1, .int i2, .int (Int32.ofNat (bc (sF σ).2.2)), .int i4, .int i5]) 3 8 (.int 0) = some (jxO 3 [.ref 244, .ref 245, .ref 249, .ref 304, .ref 306, .int i1, .int i2, .int (Int32.ofNat (bc (sF σ).2.2)), .int 0, .int i5]) from rfl, jk_bs, jk_at_self, show jx_pF (jxO 3 [.ref 244, .ref 245, .ref 249, .ref 304, .ref 306, .int i1, .int i2, .int (Int32.ofNat (bc (sF σ).2.2)), .int 0, .int i5]) 3 9 (.int (-1)) = some (jxO 3 [.ref 244, .ref 245, .ref 249, .ref 304, .ref 306, .int i1, .int i2, .int (Int32.ofNat (bc (sF σ).2.2)), .int 0, .int (-1)]) from rfl, jk_bs, jk_set_set, jk_set_set]
  have := u1 (D + (4 - n) + 2)
  rw [show D + (4 - n) + 2 + n + 10 = D + 16 by omega, Nat.zero_add] at this
  rw [show (0 : Int32) = Int32.ofNat 0 from rfl] at *
  rw [this, jk_cV]
theorem cc_fewest (hr : jk_rom rc) (C : CSt h σ) (A : AWt σ) (n w : Int32) : ∃ h', (∀ d, jx_C rc (d + 20) 40 [.ref 0, .int n, .int w] h = some (some (.int (op_fewest σ n w).1), h')) ∧ CSt h' (op_fewest σ n w).2 ∧ cF h h' := by
  unfold op_fewest
  obtain ⟨e', e1, e2, e3⟩ := cc_refuse (rc := rc) C A (k := 1) (by decide) (by decide) (K := 1) rfl
  by_cases c0 : jp_hi n 4 = true
  · rw [if_pos c0]
    obtain ⟨k, hk, rfl⟩ := (jp_hi_iff (n := 4) (by decide)).mp c0
    rw [show pn (Int32.ofNat k) = k from jk_cl (by omega)]
    have n0 : ¬ Int32.ofNat k < 0 := jk_nn (by omega)
    have n4 : ¬ 4 < Int32.ofNat k := by rw [show (4 : Int32) = Int32.ofNat 4 from rfl, jk_lt (by decide) (by omega)]; omega
    by_cases c1 : jp_hi w 2 = true
    · rw [if_pos c1]
      have w0 : ¬ w < 0 := fun z => by unfold jp_hi at c1; rw [if_pos z] at c1; cases c1
      have w2 : w ≤ 2 := by
        unfold jp_hi at c1
        rw [if_neg w0] at c1
        by_cases z : 2 < w
        · rw [if_pos z] at c1; cases c1
        · rw [Int32.lt_iff_toInt_lt] at z; rw [Int32.le_iff_toInt_le]; omega
      obtain ⟨h1, r1, C1, F1, O1⟩ := cc_dig (rc := rc) hr C A hk
      refine ⟨h1, fun d => ?_, C1, F1⟩
      rw [je_40, if_pos C.is, if_neg n0, if_neg n4, if_neg w0, if_pos w2, C.g9, jk_bs, C.g1, jk_bs, r1, jk_cV]
      by_cases z0 : w = 0
      · rw [if_pos z0, if_pos z0, C1.g9, jk_bs, dg_g7 O1, jk_bs]
      · rw [if_neg z0, if_neg z0]
        by_cases z1 : w = 1
        · rw [if_pos z1, if_pos z1, C1.g9, jk_bs, dg_g8 O1, jk_bs]
        · rw [if_neg z1, if_neg z1, C1.g9, jk_bs, dg_g9 O1, jk_bs]
    · rw [if_neg c1]
      refine ⟨e', fun d => ?_, e2, e3⟩
      rw [je_40, if_pos C.is, if_neg n0, if_neg n4]
      by_cases w0 : w < 0
      · rw [if_pos w0, e1, jk_cI]
      · have w2 : ¬ w ≤ 2 := fun z => c1 (by
          unfold jp_hi
          rw [if_neg w0, if_neg (fun y => by rw [Int32.lt_iff_toInt_lt] at y; rw [Int32.le_iff_toInt_le] at z; omega)])
        rw [if_neg w0, if_neg w2, e1, jk_cI]
  · rw [if_neg c0]
    refine ⟨e', fun d => ?_, e2, e3⟩
    rw [je_40, if_pos C.is]
    unfold jp_hi at c0
    by_cases n0 : n < 0
    · rw [if_pos n0, e1, jk_cI]
    · rw [if_neg n0] at c0 ⊢
      by_cases n4 : 4 < n
      · rw [if_pos n4, e1, jk_cI]
      · rw [if_neg n4] at c0; exact absurd rfl c0
theorem aa_fewest (A : AWt σ) (n w : Int32) : AWt (op_fewest σ n w).2 := by
  unfold op_fewest
  repeat' split
  all_goals first | exact A | exact aa_er A
end
