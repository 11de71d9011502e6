/-! LEAST: the class -/
noncomputable def op_least (σ : jSt) (x : Int32) : Int32 × jSt := if (-1 : Int32) ≤ x then (if x = -1 then (Int32.ofNat (TT (sF σ)).length, σ) else if Int32.ofNat (TT (sF σ)).length ≤ x then er σ 2 else (Int32.ofNat ((TT (sF σ)).getD (pn x) 0), σ)) else er σ 1
section
variable {rc : Nat → Nat × (Nat → Int32)} {h h' : jxH} {σ : jSt}
theorem TT_g {f : jF} (W : jf_W f) : tx_g (TT f) := by
  refine ⟨TT_len W 12 (by omega), fun b hb => ?_⟩
  refine tx_c_all (P := fun b => b < 128) (fun k hk b hb => ?_) b hb
  have := (tx_R_bt (by omega)).mp hk
  exact (TB_len W this.1 this.2.1 12 (by omega)).2.2 b hb
theorem cc_sp (C : CSt h σ) (A : AWt σ) (F : Fr (jSp 186 241) h h') (K : sp_ok h' 186) (T : tx_ok h' 241) : CSt h' σ ∧ cF h h' := by
  have n : ∀ x, ¬ (186 ≤ x ∧ x < 243) → ¬ jSp 186 241 x := fun x a b => by unfold jSp at b; omega
  refine ⟨CS_scr A.tr.2.1 C F (fun x q => Or.inr (by unfold jSp at q; exact ⟨by omega, by omega⟩)) ?_, cF.of F (fun x q => by unfold jSp at q; omega)⟩
  obtain ⟨⟨f, g⟩, s, w, r, p, t, e⟩ := C.scr
  exact ⟨⟨f, fo_fr F (fun x a b => n x (by omega)) g⟩, sk_fr F (fun x a b => n x (by omega)) s, wk_fr F (fun x a b => n x (by omega)) w, rk_fr F (fun x a b => n x (by omega)) r, K, T, se_fr F (fun x a b => n x (by omega)) e⟩
theorem tx_byte {a : Nat} {T : List Nat} (H : tx_at h a T) (hT : tx_g T) {k : Nat} (hk : k < T.length) (d : Nat) : jx_C rc (d + 1) 308 [.ref a, .int (Int32.ofNat k)] h = some (some (.int (Int32.ofNat (T.getD k 0))), h) := by
  obtain ⟨o, g, e, q⟩ := id H
  have l := hT.1
  rw [je_308, if_pos (tx_is H), if_neg (jk_nn (by omega)), if_neg (by rw [show (60 : Int32) = Int32.ofNat 60 from rfl, jk_le (by decide) (by omega)]; omega), tx_g0 H, jk_bs, e, jk_aI (by omega) (by decide), jk_bs, q k hk, jk_i8 (tx_mem hT.2 hk)]
theorem cc_least (C : CSt h σ) (A : AWt σ) (x : Int32) : ∃ h', (∀ d, jx_C rc (d + 20) 27 [.ref 0, .int x] h = some (some (.int (op_least σ x).1), h')) ∧ CSt h' (op_least σ x).2 ∧ cF h h' := by
  unfold op_least
  by_cases c0 : (-1 : Int32) ≤ x
  · rw [if_pos c0]
    obtain ⟨h1, r1, r2, r3, r4⟩ := cc_spell (rc := rc) (a := 186) (g := 2) (a2 := 241) A.W (by omega) (by omega) (by omega) C.scr.2.2.2.2.1 C.F C.scr.2.2.2.2.2.1
    obtain ⟨C1, F1⟩ := cc_sp C A r4 r2 (tx_okof r3)
    have g := TT_g A.W
    have l60 := g.1
    have st : ∀ d, jx_C rc (d + 20) 27 [.ref 0, .int x] h = _ := fun d => by
      rw [je_27, if_pos C.is, if_pos c0, C.g7, jk_bs, C.g1, jk_bs, C.g8, jk_bs, r1, jk_cV]
    by_cases c1 : x = -1
    · rw [if_pos c1]
      refine ⟨h1, fun d => ?_, C1, F1⟩
      rw [st d, if_pos c1, C1.g8, jk_bs, tx_g1 r3, jk_bs]
    · rw [if_neg c1]
      by_cases c2 : Int32.ofNat (TT (sF σ)).length ≤ x
      · rw [if_pos c2]
        obtain ⟨g', g1, g2, g3⟩ := cc_refuse (rc := rc) C1 A (k := 2) (by decide) (by decide) (K := 2) rfl
        refine ⟨g', fun d => ?_, g2, F1.trans0 ⟨r4.1, r4.2.1⟩ g3⟩
        rw [st d, if_neg c1, C1.g8, jk_bs, tx_g1 r3, jk_bs, if_pos c2, g1, jk_cI]
      · rw [if_neg c2]
        have nn : ¬ x < 0 := fun z => by
          rw [Int32.le_iff_toInt_le, show (-1 : Int32).toInt = -1 from rfl] at c0
          rw [Int32.lt_iff_toInt_lt, show (0 : Int32).toInt = 0 from rfl] at z
          exact c1 (Int32.toInt_inj.mp (by rw [show (-1 : Int32).toInt = -1 from rfl]; omega))
        have ex := jk_of nn
        have lx31 := jk_of_lt x
        have lk : x.toNatClampNeg < (TT (sF σ)).length := by
          rw [ex, jk_le (by omega) (by omega)] at c2; omega
        refine ⟨h1, fun d => ?_, C1, F1⟩
        rw [st d, if_neg c1, C1.g8, jk_bs, tx_g1 r3, jk_bs, if_neg c2, jk_bs]
        have := tx_byte (rc := rc) r3 g lk (d + 18)
        rw [← ex] at this
        rw [this, jk_cI]
        rfl
  · rw [if_neg c0]
    obtain ⟨e', e1, e2, e3⟩ := cc_refuse (rc := rc) C A (k := 1) (by decide) (by decide) (K := 1) rfl
    refine ⟨e', fun d => ?_, e2, e3⟩
    rw [je_27, if_pos C.is, if_neg c0, e1, jk_cI]
theorem aa_least (A : AWt σ) (x : Int32) : AWt (op_least σ x).2 := by
  unfold op_least
  split
  · split
    · exact A
    · split
      · exact aa_er A
      · exact A
  · exact aa_er A
end
