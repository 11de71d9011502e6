/-! KERNEL: both sides -/
/-- what a kernel's number is -/
def kK (f : jF) (p k : Nat) : Prop := k ≤ 12 ∧ ∀ x, ct p (cd 12) (fun x => ind (RU p 0 (kA0 p f) x)) x = (p : Int) ^ (12 - bc f.2.2 + k)
theorem pw_inj {p a b : Nat} (hp : 2 ≤ p) (h : (p : Int) ^ a = (p : Int) ^ b) : a = b := by
  have h : p ^ a = p ^ b := by
    rw [← Int.natCast_pow, ← Int.natCast_pow] at h
    exact Int.ofNat.inj h
  rcases Nat.lt_trichotomy a b with z | z | z
  · have := Nat.pow_lt_pow_right (show 1 < p by omega) z; omega
  · exact z
  · have := Nat.pow_lt_pow_right (show 1 < p by omega) z; omega
theorem kK_uniq {f : jF} {p k l : Nat} (hp : 2 ≤ p) (h1 : kK f p k) (h2 : kK f p l) : k = l := by
  have := pw_inj hp ((h1.2 (fun _ => 0)).symm.trans (h2.2 (fun _ => 0)))
  omega
noncomputable def iKe (f : jF) (p : Nat) : Nat := Classical.epsilon (kK f p)
theorem iKe_eq {f : jF} {p k : Nat} (hp : 2 ≤ p) (h : kK f p k) : iKe f p = k := kK_uniq hp (Classical.epsilon_spec (p := kK f p) ⟨k, h⟩) h
theorem jp_prime_6 {x : Int32} (h : jp_prime x = true) : ∃ p : Nat, pr6 p ∧ x = Int32.ofNat p := by
  unfold jp_prime at h
  by_cases a : x = 2
  · exact ⟨2, Or.inl rfl, a⟩
  rw [if_neg a] at h
  by_cases b : x = 3
  · exact ⟨3, Or.inr (Or.inl rfl), b⟩
  rw [if_neg b] at h
  by_cases c : x = 5
  · exact ⟨5, Or.inr (Or.inr (Or.inl rfl)), c⟩
  rw [if_neg c] at h
  by_cases d : x = 7
  · exact ⟨7, Or.inr (Or.inr (Or.inr (Or.inl rfl))), d⟩
  rw [if_neg d] at h
  by_cases e : x = 11
  · exact ⟨11, Or.inr (Or.inr (Or.inr (Or.inr (Or.inl rfl)))), e⟩
  rw [if_neg e] at h
  by_cases g : x = 13
  · exact ⟨13, Or.inr (Or.inr (Or.inr (Or.inr (Or.inr rfl)))), g⟩
  rw [if_neg g] at h
  cases h
noncomputable def op_kernel (σ : jSt) (x : Int32) : Int32 × jSt := if jp_prime x = true then (Int32.ofNat (iKe (sF σ) x.toNatClampNeg), σ) else er σ 1
section
variable {rc : Nat → Nat × (Nat → Int32)} {h h' : jxH} {f : jF} {σ : jSt} {p : Nat}
theorem aa_kernel (A : AWt σ) (x : Int32) : AWt (op_kernel σ x).2 := by
  unfold op_kernel
  split
  · exact A
  · exact aa_er A
-- the reference
theorem rr_kernelOf (R : RSt h σ) (A : AWt σ) (hp : pr6 p) : ∃ h', (∀ d, jx_C rc (d + 5) 135 [.ref 336, .int (Int32.ofNat p)] h = some (some (.int (Int32.ofNat (iKe (sF σ) p))), h')) ∧ RSt h' σ ∧ rF h h' := by
  have p2 := pr6_pos hp
  have s := R.scr
  obtain ⟨g0, hg0⟩ := s.1
  obtain ⟨gs, hgs⟩ := s.2.1
  obtain ⟨gt, hgt⟩ := s.2.2.1
  have rows := s.2.2.2.1
  have rowg := s.2.2.2.2.1
  have E : eO h (sF σ) := ⟨R.M, rows, R.F⟩
  have H0 : ∃ A0, rMt h A0 := by
    have one : ∀ z : Int32, z = Int32.ofNat z.toBitVec.toNat := fun z => by
      apply Int32.toBitVec_inj.1
      rw [Int32.toBitVec_ofNat']
      simp
    have hz : ∀ i, ∃ F : Nat → Nat, i < 12 → ∃ g, jx_at h (386 + i) = jxI 0 12 g ∧ ∀ j, j < 12 → g j = Int32.ofNat (F j) := fun i => by
      by_cases z : i < 12
      · obtain ⟨g, e⟩ := rowg i z
        exact ⟨fun j => (g j).toBitVec.toNat, fun _ => ⟨g, e, fun j _ => one (g j)⟩⟩
      · exact ⟨fun _ => 0, fun y => absurd y z⟩
    exact ⟨fun i => (hz i).choose, fun i hi => (hz i).choose_spec hi⟩
  obtain ⟨A0, H0⟩ := H0
  obtain ⟨h1, r1, r2, r3, r4⟩ := rf_rows_l (rc := rc) hp A.B 12 0 h A0 rfl E H0 (fun a b ha _ => by omega)
  obtain ⟨h2, us', k, A', t1, t2, t3, t4, t5, t6⟩ := rf_el (rc := rc) hp A.B 12 h1 (kA0 p (sF σ)) 0 (Nat.le_refl 12) r2 r3 (fun a b _ _ => by
    unfold kA0
    split
    · exact md_lt (by omega) _
    · omega) (fun i _ _ j hj => by omega) (fun i j _ _ hv => if_neg (fun z => by rw [hv] at z; cases z.1)) (fun i _ hb => by rw [bt_0] at hb; cases hb)
  have F : Fr jRw h h2 := r4.trans t6
  obtain ⟨R', F'⟩ := rr_scr4 R A (F.mono (fun x hx => by have : 386 ≤ x ∧ x < 398 := hx; omega)) ⟨g0, (F.2.2 _ (by show ¬ (386 ≤ 382 ∧ 382 < 398); omega)).trans hg0⟩ ⟨gs, (F.2.2 _ (by show ¬ (386 ≤ 383 ∧ 383 < 398); omega)).trans hgs⟩ ⟨gt, (F.2.2 _ (by show ¬ (386 ≤ 384 ∧ 384 < 398); omega)).trans hgt⟩ (fun i hi => by
    obtain ⟨g, e, -⟩ := t2 i hi
    exact ⟨g, e⟩)
  have le : bc us' ≤ bc (sF σ).2.2 := bc_mono t5
  have b12 := bc_le (sF σ).2.2
  have b0 : bc 0 = 0 := by decide
  have K : kK (sF σ) p (bc (sF σ).2.2 - bc us') := ⟨by omega, fun x => by
    rw [t4 x]
    congr 1
    omega⟩
  refine ⟨h2, fun d => ?_, R', F'⟩
  have r1 := r1 (d + 1)
  have t1 := t1 (d + 2)
  rw [show Int32.ofNat 0 = (0 : Int32) from rfl] at r1
  rw [show Int32.ofNat (12 - 12) = (0 : Int32) from rfl] at t1
  rw [je_135, if_pos R.is, je_134, if_pos R.is, r1, jk_cV, t1, jk_subN le, iKe_eq p2.1 K]
theorem rr_kernel (R : RSt h σ) (A : AWt σ) (x : Int32) : ∃ h', (∀ d, jx_C rc (d + 20) 136 [.ref 336, .int x] h = some (some (.int (op_kernel σ x).1), h')) ∧ RSt h' (op_kernel σ x).2 ∧ rF h h' := by
  unfold op_kernel
  by_cases c : jp_prime x = true
  · rw [if_pos c]
    obtain ⟨p, hp, rfl⟩ := jp_prime_6 c
    have p2 := pr6_pos hp
    obtain ⟨h1, r1, r2, r3⟩ := rr_kernelOf (rc := rc) R A hp
    refine ⟨h1, fun d => ?_, r2, r3⟩
    have r1 := r1 (d + 14)
    rw [jk_cl (show p < 2 ^ 31 by omega)]
    have one : ¬ (1 : Int32) = 0 := by decide
    rw [je_136, if_pos R.is]
    unfold jp_prime at c
    rw [if_neg one, r1, jk_cI]
    by_cases a1 : Int32.ofNat p = 2
    · rw [if_pos a1]
    rw [if_neg a1] at c ⊢
    by_cases a2 : Int32.ofNat p = 3
    · rw [if_pos a2]
    rw [if_neg a2] at c ⊢
    by_cases a3 : Int32.ofNat p = 5
    · rw [if_pos a3]
    rw [if_neg a3] at c ⊢
    by_cases a4 : Int32.ofNat p = 7
    · rw [if_pos a4]
    rw [if_neg a4] at c ⊢
    by_cases a5 : Int32.ofNat p = 11
    · rw [if_pos a5]
    rw [if_neg a5] at c ⊢
    by_cases a6 : Int32.ofNat p = 13
    · rw [if_pos a6]
    rw [if_neg a6] at c
    cases c
  · rw [if_neg c]
    obtain ⟨e', e1, e2, e3⟩ := rr_error (rc := rc) R A (k := 1) (by decide) (K := 1) rfl
    refine ⟨e', fun d => ?_, e2, e3⟩
    unfold jp_prime at c
    rw [je_136, if_pos R.is]
    by_cases a1 : x = 2
    · rw [if_pos a1] at c; exact absurd rfl c
    rw [if_neg a1] at c ⊢
    by_cases a2 : x = 3
    · rw [if_pos a2] at c; exact absurd rfl c
    rw [if_neg a2] at c ⊢
    by_cases a3 : x = 5
    · rw [if_pos a3] at c; exact absurd rfl c
    rw [if_neg a3] at c ⊢
    by_cases a4 : x = 7
    · rw [if_pos a4] at c; exact absurd rfl c
    rw [if_neg a4] at c ⊢
    by_cases a5 : x = 11
    · rw [if_pos a5] at c; exact absurd rfl c
    rw [if_neg a5] at c ⊢
    by_cases a6 : x = 13
    · rw [if_pos a6] at c; exact absurd rfl c
    rw [if_neg a6, if_pos rfl, e1, jk_cI]
-- the class
theorem fm_FM {n : Int64} (hn : n.toInt = p) (hp : 0 < p) : kFM p (fun x => jl_fm x n) := by
  intro x
  have hn0 : 0 < n.toInt := by omega
  obtain ⟨a1, a2⟩ := jl_fm_range (x := x) hn0
  refine ⟨a1, by show (jl_fm x n).toInt < p; omega, ?_⟩
  have r := jl_rem (x := x) hn0
  have un := Int64.toInt_lt n
  have tm := Int.mul_tdiv_add_tmod x.toInt n.toInt
  have b1 := Int.tmod_lt_of_pos x.toInt hn0
  have b2 : -n.toInt < x.toInt.tmod n.toInt := by
    have := Int.tmod_lt_of_pos (-x.toInt) hn0
    rw [Int.neg_tmod] at this; omega
  show (p : Int) ∣ (jl_fm x n).toInt - x.toInt
  rw [← hn]
  unfold jl_fm
  split
  · rw [r]
    refine ⟨-(x.toInt.tdiv n.toInt), ?_⟩
    rw [Int.mul_neg]; omega
  · have e : ((x - x / n * n) + n).toInt = x.toInt.tmod n.toInt + n.toInt := by
      rw [Int64.toInt_add, r]
      exact Int.bmod_eq_of_le (by omega) (by omega)
    rw [e]
    refine ⟨1 - x.toInt.tdiv n.toInt, ?_⟩
    rw [Int.mul_sub, Int.mul_one]; omega
theorem mx_s_pl (F : Nat → Int) (o : Nat → Nat) : ∀ n, mx_s F (pl o n) = js (fun k => F (o k)) n
  | 0 => rfl
  | n + 1 => by
    rw [pl_succ, mx_s_app, mx_s_pl F o n]
    show _ + (F (o n) + 0) = _ + F (o n)
    omega
/-- the class's rows and the table's -/
theorem ks_RU (B : jf_B f) (hp : pr6 p) {o : Nat → Nat} {par : Nat → Option Nat} {sz : Nat} (K : wk_O f f.2.2 o par sz) {lf : Int64 → Int64} (FM : kFM p lf) (x : Nat → Int) : ks p f o ((fun q => lf (f.1 q).toInt64), (fun _ => 1), 0, 0, 0, 0) sz x ↔ RU p 0 (kA0 p f) x := by
  have p2 := pr6_pos hp
  have O := ivO_of B K
  have row : ∀ i, i < sz → (kr p (((fun q => lf (f.1 q).toInt64), (fun _ => 1), 0, 0, 0, 0) : sgS) (o i) (kS f o i sz x) x ↔ (p : Int) ∣ SA (kA0 p f) (o i) x) := by
    intro i hi
    obtain ⟨i12, iv⟩ := K.2.1 i hi
    have e1 : kr p (((fun q => lf (f.1 q).toInt64), (fun _ => 1), 0, 0, 0, 0) : sgS) (o i) (kS f o i sz x) x ↔ (p : Int) ∣ (lf (f.1 (o i)).toInt64).toInt * x (o i) + 1 * kS f o i sz x := by
      unfold kr
      constructor
      · intro h; exact h.2 (bt_0 _)
      · intro h; exact ⟨fun y => (by
          have y : bt 0 (o i) = true := y
          rw [bt_0] at y; cases y), fun _ => h⟩
    rw [e1]
    apply dv_congr
    -- the table's row over the order
    have e2 : js (fun j => kA f (o i) (o j) * x (o j)) sz = kS f o i sz x + ew f (o i) * x (o i) := by
      unfold kS
      refine js_bumpc hi ?_ (fun k hk hne => ?_)
      · have z : ec f (o i) (o i) = 0 := by
          unfold ec
          rw [if_pos ⟨i12, i12⟩]
          unfold ee
          rw [B.irr i12]; rfl
        have z2 : kA f (o i) (o i) = ew f (o i) := if_pos rfl
        try dsimp only
        rw [z, z2, Int.zero_mul]; omega
      · have z2 : kA f (o i) (o k) = ec f (o i) (o k) := by
          unfold kA ec
          rw [if_neg (fun z => hne (O.2.1 k i hk hi z.symm)), if_pos ⟨i12, (K.2.1 k hk).1⟩]
        try dsimp only
        rw [z2]
    have e3 : js (fun j => kA f (o i) (o j) * x (o j)) sz = js (fun q => if bt f.2.2 q = true then kA f (o i) q * x q else 0) 12 := by
      rw [← mx_s_sl (fun q => kA f (o i) q * x q), ← mx_s_perm (pl_sl K), mx_s_pl]
    have e4 : (p : Int) ∣ SA (kA0 p f) (o i) x - js (fun q => if bt f.2.2 q = true then kA f (o i) q * x q else 0) 12 := by
      unfold SA
      refine js_dvd (fun q _ => ?_)
      try dsimp only
      unfold kA0
      by_cases bq : bt f.2.2 q = true
      · rw [if_pos ⟨iv, bq⟩, if_pos bq]
        obtain ⟨m, hm⟩ := md_dvd (show 0 < p by omega) (kA f (o i) q)
        refine ⟨m * x q, ?_⟩
        rw [← Int.sub_mul, hm, Int.mul_assoc]
      · rw [if_neg (fun z => bq z.2), if_neg bq]
        refine ⟨0, ?_⟩
        show (0 : Int) * _ - 0 = p * 0
        omega
    obtain ⟨m1, h1⟩ := e4
    obtain ⟨m2, h2⟩ := (FM (f.1 (o i)).toInt64).2.2
    have h3 : (f.1 (o i)).toInt64.toInt = ew f (o i) := Int32.toInt_toInt64 _
    rw [h3] at h2
    rw [← e3, e2] at h1
    refine ⟨m2 * x (o i) - m1, ?_⟩
    have e5 : (lf (f.1 (o i)).toInt64).toInt = p * m2 + ew f (o i) := by omega
    rw [e5, Int.add_mul, Int.mul_sub, Int.mul_assoc, Int.one_mul]
    omega
  unfold ks RU
  constructor
  · intro h a ha _
    by_cases va : bt f.2.2 a = true
    · obtain ⟨i, hi, rfl⟩ := K.2.2.1 a va
      exact (row i hi).mp (h i hi)
    · unfold SA
      rw [js_congr (h := fun _ => 0) (fun j _ => by
        have : kA0 p f a j = 0 := if_neg (fun z => va z.1)
        try dsimp only
        rw [this]
        exact Int.zero_mul _), js_0]
      exact ⟨0, by omega⟩
  · intro h i hi
    exact (row i hi).mpr (h (o i) (K.2.1 i hi).1 (bt_0 _))
theorem cd_perm {o : Nat → Nat} {par : Nat → Option Nat} {sz : Nat} (K : wk_O f f.2.2 o par sz) : (cd 12).Perm ((List.range 12).filter (fun x => !(bt f.2.2 x)) ++ pl o sz) := by
  have e : cd 12 = (List.range 12).reverse := by decide
  rw [e]
  refine (List.reverse_perm _).trans ?_
  refine (List.filter_append_perm (bt f.2.2) (List.range 12)).symm.trans ?_
  refine List.perm_append_comm.trans ?_
  exact List.Perm.append_left _ (pl_sl K).symm
theorem kK_class (W : jf_W f) (hp : pr6 p) {o : Nat → Nat} {par : Nat → Option Nat} {sz : Nat} (K : wk_O f f.2.2 o par sz) {lf : Int64 → Int64} (FM : kFM p lf) {s : sgS} (hs : s = sg_r lf o par sz ((fun q => lf (f.1 q).toInt64), (fun _ => 1), 0, 0, 0, 0)) : s.2.2.2.2.2 = Int32.ofNat (iKe f p) := by
  have p2 := pr6_pos hp
  have B := W.1
  have O := ivO_of B K
  have hsz : sz = bc f.2.2 := K.1
  have b12 := bc_le f.2.2
  obtain ⟨k, k1, k2, k3⟩ := ks_run (p := p) (lf := lf) O (fun i hi => by
    have i12 := (K.2.1 i hi).1
    unfold ec
    rw [if_pos ⟨i12, i12⟩]
    unfold ee
    rw [B.irr i12]; rfl) (fun i hi => (K.2.1 i hi).1) hp FM sz ((fun q => lf (f.1 q).toInt64), (fun _ => 1), 0, 0, 0, 0) (Nat.le_refl sz) (fun i _ => by
      obtain ⟨a1, a2, -⟩ := FM (f.1 (o i)).toInt64
      have r1 : rI (((fun q => lf (f.1 q).toInt64), (fun _ => 1), 0, 0, 0, 0) : sgS) (o i) = 1 := by
        show (1 : Int64).toInt = 1
        decide
      refine ⟨a1, a2, ?_, ?_, ?_⟩
      · rw [r1]; decide
      · rw [r1]; omega
      · rw [r1]; exact un_1 p)
  have KK : kK f p k := by
    refine ⟨by omega, fun x => ?_⟩
    have perm := cd_perm K
    have nd : (cd 12).Nodup := by decide
    have len : ((List.range 12).filter (fun x => !(bt f.2.2 x))).length = 12 - bc f.2.2 := by
      have h1 := (List.filter_append_perm (bt f.2.2) (List.range 12)).length_eq
      rw [List.length_append, List.length_range] at h1
      have h2 : ((List.range 12).filter (bt f.2.2)).length = bc f.2.2 := sl_length f.2.2
      omega
    rw [ct_perm perm nd, ct_app, ct_congr (H := fun _ => (p : Int) ^ k) (fun x => by
      rw [ct_congr (H := fun x => ind (ks p f o ((fun q => lf (f.1 q).toInt64), (fun _ => 1), 0, 0, 0, 0) sz x)) (fun x => ind_congr (ks_RU B hp K FM x).symm)]
      exact k3 x), ct_const, len, Int.pow_add]
  rw [hs, k2, iKe_eq p2.1 KK]
  show (0 : Int32) + Int32.ofNat k = _
  exact Int32.zero_add _
theorem cc_kernel (C : CSt h σ) (A : AWt σ) (x : Int32) : ∃ h', (∀ d, jx_C rc (d + 20) 17 [.ref 0, .int x] h = some (some (.int (op_kernel σ x).1), h')) ∧ CSt h' (op_kernel σ x).2 ∧ cF h h' := by
  unfold op_kernel
  by_cases c : jp_prime x = true
  · rw [if_pos c]
    obtain ⟨p, hp, rfl⟩ := jp_prime_6 c
    have p2 := pr6_pos hp
    have hn : (Int32.ofNat p).toInt64.toInt = p := by
      rw [Int32.toInt_toInt64]
      rcases hp with rfl | rfl | rfl | rfl | rfl | rfl <;> decide
    have pz : ¬ Int32.ofNat p ≤ 0 := by
      rw [show (0 : Int32) = Int32.ofNat 0 from rfl, jk_le (by omega) (by decide)]; omega
    obtain ⟨h1, o, par, sz, v, s, r1, r2, r3, r4, r5, r6⟩ := sg_sort (rc := rc) (pr := Int32.ofNat p) (lf := fun x => jl_fm x (Int32.ofNat p).toInt64) (fun x d h => by
      rw [je_252, if_neg pz, cl_fm (by omega), jk_cL]) (a := 178) C.scr.2.2.2.1 C.F A.W (by omega)
    have fin := kK_class A.W hp r2 (fm_FM hn (by omega)) r3
    obtain ⟨C1, F1⟩ := cc_rk C A r6 r5
    refine ⟨h1, fun d => ?_, C1, F1⟩
    rw [jk_cl (show p < 2 ^ 31 by omega), je_17, if_pos C.is, cl_isPrime, jk_cI, jk_if0, if_pos c, C.g6, jk_bs, C.g1, jk_bs, r1, jk_cV, C1.g6, jk_bs, so_g9 r4, jk_bs, fin]
  · rw [if_neg c]
    obtain ⟨e', e1, e2, e3⟩ := cc_refuse (rc := rc) C A (k := 1) (by decide) (by decide) (K := 1) rfl
    refine ⟨e', fun d => ?_, e2, e3⟩
    rw [je_17, if_pos C.is, cl_isPrime, jk_cI, jk_if0, if_neg c, e1, jk_cI]
end
