/-! One instruction after the other: from the small machine's state to the machine's -/
section SIM2
variable {p : Program} {l : Launch} {e : Env} {R : Room} {s : State} {m : MethodId} {args : Array Value} {below : List Frame} {meth : Method} {c : Code} {Q : State → Prop}
variable {bs : Nat} {rom : Nat → Nat} {rc : Nat → Nat × (Nat → Int32)} {D : va_G} {tc : Nat → ClassId} {n0 sl0 : Nat}
variable {cc : ByteArray} {nL own : Nat} {ini : Bool} {rk : Option FieldType} {code : List jxRow} {c0 : Nat → List Value → jxH → jxR} {d : Nat} {res : Option Value × jxH}
/-- what the machine does from a frame on, where the small one stands at s' -/
def jx_On (p : Program) (l : Launch) (e : Env) (R : Room) (s : State) (m : MethodId) (args : Array Value) (below : List Frame) (meth : Method) (c : Code) (Q : State → Prop) (bs : Nat) (rom : Nat → Nat) (D : va_G) (tc : Nat → ClassId) (n0 sl0 nL : Nat) (code : List jxRow) (s' : jxS) : Prop :=
  ∀ (pc' : Nat), (∃ r', code[s'.1]? = some r' ∧ r'.pc = pc') → ∀ (H : Heap) (locs : List Loc) (cells slots : Nat) (ls' : Array Slot), jx_M bs rom D tc s n0 sl0 s'.2.2.2 H locs cells slots → lv_has ls' nL (jx_cvL bs rom s'.2.1) →
    W p l e R s m args below meth c H locs cells slots Q (F0 m pc' ls' (s'.2.2.1.map (jx_cv bs rom)))
/-- how a method's end is: which instruction, what answer -/
def jx_end (cc : ByteArray) (rk : Option FieldType) (pc : Nat) (v : Option Value) : Prop :=
  (∃ x, v = some (.int x) ∧ decode cc pc = .ok (.ireturn, 1) ∧ (rk = some .int ∨ (rk = some .boolean ∧ jx_bool x = true))) ∨ (∃ x, v = some (.long x) ∧ decode cc pc = .ok (.lreturn, 1) ∧ rk = some .long) ∨
  (∃ x : Option Nat, v = some (va_rf x) ∧ decode cc pc = .ok (.areturn, 1) ∧ ∃ n, rk = some (.object n)) ∨ (v = none ∧ decode cc pc = .ok (.return_, 1) ∧ rk = none)
theorem jx_sw_find {x : Int32} {d : Nat} {K : Nat → jxR} {res} : ∀ (ts : List Nat) (lo : Int32), jx_sw x lo d K ts = some res → (∃ j t, ts[j]? = some t ∧ x = lo + nI j ∧ K t = some res) ∨ ((∀ j, j < ts.length → x ≠ lo + nI j) ∧ K d = some res)
  | [], _, h => Or.inr ⟨fun j hj => absurd hj (Nat.not_lt_zero _), h⟩
  | t :: ts, lo, h => by
    unfold jx_sw at h
    rcases jx_if_some h with ⟨hc, h⟩ | ⟨hc, h⟩
    · exact Or.inl ⟨0, t, rfl, by rw [hc, nI_0]; simp, h⟩
    · have e : ∀ j, lo + 1 + nI j = lo + nI (j + 1) := fun j => by rw [← nI_1 j, Int32.add_assoc, Int32.add_comm 1 (nI j)]
      rcases jx_sw_find ts (lo + 1) h with ⟨j, t', h1, h2, h3⟩ | ⟨h1, h2⟩
      · exact Or.inl ⟨j + 1, t', by simpa using h1, by rw [h2, e], h3⟩
      · refine Or.inr ⟨fun j hj => ?_, h2⟩
        cases j with
        | zero => rw [nI_0]; simpa using hc
        | succ j => rw [← e]; exact h1 j (by simpa using hj)
theorem jx_hasCell {h : jxH} {H : Heap} (hR : jx_Rel bs rom D tc h H) {a t n : Nat} {g : jxD} (he : jx_at h a = .inr (.inl (t, n, g))) : a < h.1 ∧ (jx_ws bs rom tc h)[a]? = some (bs + a, .inl (tc t, n, jx_cvD bs t g)) :=
  ⟨hR.lt (by rw [he]; simp), hR.at he (by simp)⟩
theorem jx_aI_inv {en : jxE} {t : Nat} {k x : Int32} (h : jx_aI en t k = some x) : ∃ n g, en = .inr (.inl (t, n, .inl g)) ∧ vp_in k n ∧ x = g k.toNatClampNeg := by
  unfold jx_aI at h
  split at h
  · split at h
    · rename_i hc
      obtain ⟨rfl, hc⟩ := hc
      exact ⟨_, _, rfl, jx_out_in hc, (Option.some.inj h).symm⟩
    · cases h
  · cases h
theorem jx_aL_inv {en : jxE} {k : Int32} {x : Int64} (h : jx_aL en k = some x) : ∃ n g, en = .inr (.inl (1, n, .inr (.inl g))) ∧ vp_in k n ∧ x = g k.toNatClampNeg := by
  unfold jx_aL at h
  split at h
  · split at h
    · rename_i hc
      obtain ⟨rfl, hc⟩ := hc
      exact ⟨_, _, rfl, jx_out_in hc, (Option.some.inj h).symm⟩
    · cases h
  · cases h
theorem jx_aQ_inv {en : jxE} {t : Nat} {k : Int32} {x : Option Nat} (h : jx_aQ en t k = some x) : ∃ n g, en = .inr (.inl (t, n, .inr (.inr (.inr (.inr g))))) ∧ vp_in k n ∧ x = g k.toNatClampNeg := by
  unfold jx_aQ at h
  split at h
  · split at h
    · rename_i hc
      obtain ⟨rfl, hc⟩ := hc
      exact ⟨_, _, rfl, jx_out_in hc, (Option.some.inj h).symm⟩
    · cases h
  · cases h
theorem jx_sI_inv {en e2 : jxE} {t : Nat} {k x : Int32} (h : jx_sI en t k x = some e2) : ∃ n g, en = .inr (.inl (t, n, .inl g)) ∧ vp_in k n ∧ e2 = .inr (.inl (t, n, .inl (upd g k.toNatClampNeg x))) := by
  unfold jx_sI at h
  split at h
  · split at h
    · rename_i hc
      obtain ⟨rfl, hc⟩ := hc
      exact ⟨_, _, rfl, jx_out_in hc, (Option.some.inj h).symm⟩
    · cases h
  · cases h
theorem jx_sL_inv {en e2 : jxE} {k : Int32} {x : Int64} (h : jx_sL en k x = some e2) : ∃ n g, en = .inr (.inl (1, n, .inr (.inl g))) ∧ vp_in k n ∧ e2 = .inr (.inl (1, n, .inr (.inl (vp_updL g k.toNatClampNeg x)))) := by
  unfold jx_sL at h
  split at h
  · split at h
    · rename_i hc
      obtain ⟨rfl, hc⟩ := hc
      exact ⟨_, _, rfl, jx_out_in hc, (Option.some.inj h).symm⟩
    · cases h
  · cases h
theorem jx_sQ_inv {en e2 : jxE} {t : Nat} {k : Int32} {x : Option Nat} (h : jx_sQ en t k x = some e2) : ∃ n g, en = .inr (.inl (t, n, .inr (.inr (.inr (.inr g))))) ∧ vp_in k n ∧ e2 = .inr (.inl (t, n, .inr (.inr (.inr (.inr (va_up g k.toNatClampNeg x)))))) := by
  unfold jx_sQ at h
  split at h
  · split at h
    · rename_i hc
      obtain ⟨rfl, hc⟩ := hc
      exact ⟨_, _, rfl, jx_out_in hc, (Option.some.inj h).symm⟩
    · cases h
  · cases h
theorem jx_cp_inv {e1 e2 e3 : jxE} {t : Nat} {sp dp n : Int32} (h : jx_cp e1 e2 t sp dp n = some e3) : ∃ n1 n2 f g, e1 = .inr (.inl (t, n1, .inl f)) ∧ e2 = .inr (.inl (t, n2, .inl g)) ∧ ¬ sp < 0 ∧ ¬ dp < 0 ∧ ¬ n < 0 ∧ sp.toNatClampNeg + n.toNatClampNeg ≤ n1 ∧ dp.toNatClampNeg + n.toNatClampNeg ≤ n2 ∧ e3 = .inr (.inl (t, n2, .inl (va_cpy f g sp.toNatClampNeg dp.toNatClampNeg n.toNatClampNeg))) := by
  unfold jx_cp at h
  split at h
  · split at h
    · rename_i hc
      obtain ⟨rfl, rfl, hc⟩ := hc
      exact ⟨_, _, _, _, rfl, rfl, hc.1, hc.2.1, hc.2.2.1, hc.2.2.2.1, hc.2.2.2.2, (Option.some.inj h).symm⟩
    · cases h
  · cases h
theorem jx_gI_inv {en : jxE} {ci k : Nat} {x : Int32} (h : jx_gI en ci k = some x) : ∃ fs, en = .inl (ci, fs) ∧ fs[k]? = some (.int x) := by
  unfold jx_gI at h
  split at h
  · split at h
    · rename_i hc
      subst hc
      split at h
      · rename_i e
        cases h
        exact ⟨_, rfl, e⟩
      · cases h
    · cases h
  · cases h
theorem jx_gL_inv {en : jxE} {ci k : Nat} {x : Int64} (h : jx_gL en ci k = some x) : ∃ fs, en = .inl (ci, fs) ∧ fs[k]? = some (.long x) := by
  unfold jx_gL at h
  split at h
  · split at h
    · rename_i hc
      subst hc
      split at h
      · rename_i e
        cases h
        exact ⟨_, rfl, e⟩
      · cases h
    · cases h
  · cases h
theorem jx_gR_inv {en : jxE} {ci k : Nat} {x : Nat} (h : jx_gR en ci k = some x) : ∃ fs, en = .inl (ci, fs) ∧ fs[k]? = some (.ref x) := by
  unfold jx_gR at h
  split at h
  · split at h
    · rename_i hc
      subst hc
      split at h
      · rename_i e
        cases h
        exact ⟨_, rfl, e⟩
      · cases h
    · cases h
  · cases h
theorem jx_pF_inv {en e2 : jxE} {ci k : Nat} {v : Value} (h : jx_pF en ci k v = some e2) : ∃ fs, en = .inl (ci, fs) ∧ k < fs.length ∧ e2 = .inl (ci, fs.set k v) := by
  unfold jx_pF at h
  split at h
  · split at h
    · rename_i hc
      obtain ⟨rfl, hc⟩ := hc
      exact ⟨_, rfl, hc, (Option.some.inj h).symm⟩
    · cases h
  · cases h
theorem jx_mth_spec {k : Nat} {f : jxMi → Bool} (h : jx_mth k f = true) {q : jxMi} (hq : jx_mi[k]? = some q) : f q = true := by
  unfold jx_mth at h
  rw [hq] at h
  exact h
theorem jx_cpcv {n2 : Nat} {f g : Nat → Int32} {a b k : Nat} : jx_cvE bs rom tc (.inr (.inl (2, n2, .inl (va_cpy f g a b k)))) = .inl (tc 2, n2, .inl (va_cpy (fun j => (f j).toInt8.toInt32) (fun j => (g j).toInt8.toInt32) a b k)) := by
  show Sum.inl (tc 2, n2, Sum.inl (fun j => (va_cpy f g a b k j).toInt8.toInt32)) = _
  congr 4
  funext j
  unfold va_cpy
  split <;> rfl
theorem jx_cv_rf (r : Option Nat) : jx_cv bs rom (va_rf r) = va_rf (r.map (fun a => bs + a)) := by cases r <;> rfl
theorem jx_is_inv {en : jxE} {ci : Nat} (h : jx_is en ci = true) : ∃ fs, en = .inl (ci, fs) := by
  unfold jx_is at h
  split at h
  · rename_i c' fs
    exact ⟨fs, by rw [show c' = ci from by simpa using h]⟩
  · cases h
theorem jx_len_inv {en : jxE} {n : Nat} (h : jx_len en = some n) : ∃ t g, en = .inr (.inl (t, n, g)) ∧ t < 9 := by
  unfold jx_len at h
  split at h
  · split at h
    · rename_i hc
      cases h
      exact ⟨_, _, rfl, hc⟩
    · cases h
  · cases h
theorem jx_tys_at {t : Nat} (h : t < 9) : (jx_tys tc)[t]? = some (tc t, jx_ty t) := by
  rcases (show t = 0 ∨ t = 1 ∨ t = 2 ∨ t = 3 ∨ t = 4 ∨ t = 5 ∨ t = 6 ∨ t = 7 ∨ t = 8 by omega) with rfl | rfl | rfl | rfl | rfl | rfl | rfl | rfl | rfl <;> rfl
theorem jx_cvE_upQ {t n k v : Nat} {g : Nat → Option Nat} : jx_cvE bs rom tc (.inr (.inl (t, n, .inr (.inr (.inr (.inr (va_up g k (some v)))))))) = .inl (tc t, n, .inr (.inr (.inr (.inr (va_up (fun j => (g j).map (fun a => bs + a)) k (some (bs + v))))))) := by
  show Sum.inl (tc t, n, Sum.inr (Sum.inr (Sum.inr (Sum.inr _)))) = _
  congr 7
  funext j
  unfold va_up
  by_cases e : j = k
  · simp [e]
  · simp [e]
theorem jx_cvE_upN {t n k : Nat} {g : Nat → Option Nat} : jx_cvE bs rom tc (.inr (.inl (t, n, .inr (.inr (.inr (.inr (va_up g k none))))))) = .inl (tc t, n, .inr (.inr (.inr (.inr (va_up (fun j => (g j).map (fun a => bs + a)) k none))))) := by
  show Sum.inl (tc t, n, Sum.inr (Sum.inr (Sum.inr (Sum.inr _)))) = _
  congr 7
  funext j
  unfold va_up
  by_cases e : j = k
  · simp [e]
  · simp [e]
theorem jx_dflt_cv (ci : Nat) : (jx_dflt ci).map (jx_cv bs rom) = jx_dflt ci := by
  unfold jx_dflt
  split <;> rfl
theorem jx_arr_in {ty : FieldType} (i : Nat) (h : (jx_arrPos.map (fun q => q.1))[i]? = some ty) : Cond.arrayClass ty ∈ jx_big := by
  rw [List.getElem?_map] at h
  cases hq : jx_arrPos[i]? with
  | none => rw [hq] at h; cases h
  | some q =>
    rw [hq] at h
    cases h
    exact jx_okw_in (List.all_eq_true.mp jx_arr_ok q (List.mem_of_getElem? hq))
theorem jx_arr_same {t : Nat} {cA : ClassId} (ht : t < 9) (h1 : va_K D vwCl (jx_tys tc) s) (h2 : va_K D vwCl (jx_tys tc ++ [(cA, jx_ty t)]) s) : cA = tc t := by
  have g1 := (h1.2 t _ (jx_tys_at ht)).2
  have g2 := (h2.2 9 (cA, jx_ty t) (by rw [List.getElem?_append_right (by simp)]; rfl)).2
  have key : ∀ c', va_RA s c' (jx_ty t) → s.vm.findClass ("[" ++ (jx_ty t).toString) = some c' := by
    intro c' hc
    unfold va_RA at hc
    split at hc
    · rename_i C hC
      obtain ⟨_, _, _, _, _, h4⟩ := hc
      rw [hC]
      exact h4
    · exact hc
  exact Option.some.inj ((key _ g2).symm.trans (key _ g1))
theorem jx_aald {H : Heap} {locs : List Loc} {cells slots : Nat} {pc : Nat} {ls : Array Slot} {rest : List Value} {cl : List vw_C} {a : Nat} {tys : List (ClassId × FieldType)} {ws : va_W} (hexec : p.tables.exec = Jvm.exec) (hb : c.code = cc) (hK : va_K D cl tys s) (hP : va_P D cl ws H) (q0 t0 : Nat) {cA : ClassId} {ty : FieldType} {n : Nat} {f : Nat → Option Nat} (ha : ws[q0]? = some (a, .inl (cA, n, .inr (.inr (.inr (.inr f)))))) (ht : tys[t0]? = some (cA, ty)) (hty : ty.isReference = true) {i : Int32} (hin : vp_in i n) (hdg : decode cc pc = .ok (.aaload, 1))
    (kk : W p l e R s m args below meth c H locs cells slots Q (F0 m (pc + 1) ls (va_rf (f i.toNatClampNeg) :: rest))) : W p l e R s m args below meth c H locs cells slots Q (F0 m pc ls (.int i :: .ref a :: rest)) := by
  have hlt : i.toNatClampNeg < n := Nat.not_le.mp fun q => hin (Or.inr q)
  exact W.aald (v := va_rf (f i.toNatClampNeg)) (ty := ty) hexec hb (hP q0 _ ha) ((hK.2 t0 _ ht).1 n (fun j => va_rf (f j))) hty (fun q => by cases q) (by show ¬ (i < 0 ∨ (arrV _ _ _).slots.size ≤ _); rw [arrV_size]; exact hin) (by show (arrV _ _ _).slots[_]? = _; rw [arrV_read _ _ hlt]) rfl rfl hdg kk
theorem jx_updcv {g : Nat → Int32} {k : Nat} {x : Int32} : (fun j => (upd g k x.toInt8.toInt32 j).toInt8.toInt32) = upd (fun j => (g j).toInt8.toInt32) k (vp_nar .byte x) := by
  funext j
  rw [vp_nar_byte]
  unfold upd
  by_cases e : j = k
  · simp [e]
  · simp [e]
theorem jx_getf (hx : p.tables.exec = Jvm.exec) (hb : c.code = cc) (hown : s.vm.findClass (jx_c own) = some m.cls) (hts : ∀ w ∈ jx_big, w.before args s = true) (hWd : jx_Wd bs rom rc D tc s) {h : jxH} {H : Heap} {locs : List Loc} {cells slots : Nat} (hR : jx_Rel bs rom D tc h H) {a ix ci k pc : Nat} {fs : List Value} {v : Value} {ls : Array Slot} {rest : List Value}
    (he : jx_at h a = .inl (ci, fs)) (hv : fs[k]? = some v) (hlk : jx_hf own ix ci k = true) (hdg : decode cc pc = .ok (.getfield ix, 3))
    (kk : W p l e R s m args below meth c H locs cells slots Q (F0 m (pc + 3) ls (jx_cv bs rom v :: rest))) : W p l e R s m args below meth c H locs cells slots Q (F0 m pc ls (.ref (bs + a) :: rest)) := by
  obtain ⟨r, hr, hk, hl⟩ := jx_hf_spec hlk
  have hat := hR.at he (by simp)
  have hv2 : (fs.map (jx_cv bs rom))[k]? = some (jx_cv bs rom v) := by rw [List.getElem?_map, hv]; rfl
  rcases hl with hl | hl
  · exact va_get hx hb hts (jx_lay_in hr) hown hWd.1 hR.1 a hat hr k hk (hts _ hl) (fun _ z => z) hv2 hdg kk
  · exact va_getN hx hb hts (jx_lay_in hr) hown hWd.1 hR.1 a hat hr k hk (va_Nw.use rfl (hWd.2.1 _ hl)) (fun _ z => z) hv2 hdg kk
theorem jx_putf (hx : p.tables.exec = Jvm.exec) (hb : c.code = cc) (hown : s.vm.findClass (jx_c own) = some m.cls) (hts : ∀ w ∈ jx_big, w.before args s = true) (hWd : jx_Wd bs rom rc D tc s) (hini : ini = true → meth.name = "<init>") {h : jxH} {H : Heap} {locs : List Loc} {cells slots : Nat} (hM : jx_M bs rom D tc s n0 sl0 h H locs cells slots) {a ix ci k pc : Nat} {fs : List Value} {v : Value} {ls : Array Slot} {rest : List Value}
    (he : jx_at h a = .inl (ci, fs)) (hkl : k < fs.length) (hlk : jx_hf own ix ci k = true) (hfin : jx_fin ini own ix ci k = true) (hn : narrow (jx_fty ci k) (jx_cv bs rom v) = jx_cv bs rom v) (hfit : fits (jx_fty ci k) (jx_cv bs rom v) = true) (hdg : decode cc pc = .ok (.putfield ix, 3))
    (kk : ∀ (H1 : Heap) (locs1 : List Loc), jx_M bs rom D tc s n0 sl0 (jx_set h a (.inl (ci, fs.set k v))) H1 locs1 cells slots → W p l e R s m args below meth c H1 locs1 cells slots Q (F0 m (pc + 3) ls rest)) : W p l e R s m args below meth c H locs cells slots Q (F0 m pc ls (jx_cv bs rom v :: .ref (bs + a) :: rest)) := by
  obtain ⟨r, hr, hk, hl⟩ := jx_hf_spec hlk
  have hat := hM.1.at he (by simp)
  obtain ⟨hty, hnm⟩ := jx_cls_ok hr
  have hlt : a < h.1 := hM.1.lt (by rw [he]; simp)
  have hset : jx_cvE bs rom tc (.inl (ci, fs.set k v)) = .inr (ci, (fs.map (jx_cv bs rom)).set k (jx_cv bs rom v)) := by
    show Sum.inr (ci, (fs.set k v).map (jx_cv bs rom)) = _
    rw [List.map_set]
  have hkk := jx_fin_set (p := p) (l := l) (e := e) (R := R) (args := args) (below := below) (meth := meth) (c := c) (Q := Q) (m := m) (g := F0 m (pc + 3) ls rest) hM hlt kk
  rw [hset] at hkk
  have hl2 : k < (fs.map (jx_cv bs rom)).length := by rw [List.length_map]; exact hkl
  unfold jx_fin at hfin
  rw [hr] at hfin
  dsimp only at hfin
  rw [Bool.or_eq_true] at hfin
  rcases hfin with hfin | hfin
  · rcases hl with hl | hl
    · exact va_put hx hb hts (jx_lay_in hr) (jx_fty ci) hty hnm hown hWd.1 hM.1.1 jx_ws_D (jx_S0 hM) a hat hr k hk (hts _ hl) (fun _ z => z) (of_decide_eq_true hfin) (hty k hk) hn hfit hl2 hdg hkk
    · exact va_putN hx hb hts (jx_lay_in hr) (jx_fty ci) hty hnm hown hWd.1 hM.1.1 jx_ws_D (jx_S0 hM) a hat hr k hk (va_Nw.use rfl (hWd.2.1 _ hl)) (fun _ z => z) (of_decide_eq_true hfin) (hty k hk) hn hfit hl2 hdg hkk
  · obtain ⟨f1, f2⟩ := Bool.and_eq_true_iff.mp hfin
    obtain ⟨f5, f2⟩ := Bool.and_eq_true_iff.mp f2
    obtain ⟨f3, f4⟩ := of_decide_eq_true f2
    obtain ⟨r', hr', -, hl'⟩ := jx_hfl_spec f5
    cases hr.symm.trans hr'
    exact va_putF hx hb hts (jx_lay_in hr) (jx_fty ci) hty hnm hown hWd.1 hM.1.1 jx_ws_D (jx_S0 hM) a hat hr k hk (hts _ hl') (fun _ z => z) f3 (hini f1) f4 (hty k hk) hn hfit hl2 hdg hkk
set_option maxHeartbeats 8000000 in
theorem jx_sim1 (hx : p.tables.exec = Jvm.exec) (hb : c.code = cc) (hml : c.maxLocals = nL) (hown : s.vm.findClass (jx_c own) = some m.cls) (hts : ∀ w ∈ jx_big, w.before args s = true) (hWd : jx_Wd bs rom rc D tc s) (hini : ini = true → meth.name = "<init>")
    (hd : d + 1 ≤ R.frames) (hdl : 60 * (d + 1) ≤ R.locals) (hMet : jx_Mets l bs rom rc D tc c0 d) (hcg : jx_grows c0) (hres : res.2.1 ≤ n0 + R.cells ∧ res.2.2.1 ≤ sl0 + R.slots)
    (hret : ∀ (pc : Nat) (H : Heap) (locs : List Loc) (cells slots : Nat) (ls' : Array Slot), jx_end cc rk pc res.1 → jx_M bs rom D tc s n0 sl0 res.2 H locs cells slots → W p l e R s m args below meth c H locs cells slots Q (F0 m pc ls' (res.1.toList.map (jx_cv bs rom))))
    (K : jxS → jxR) (hK : ∀ s', K s' = some res → jx_On p l e R s m args below meth c Q bs rom D tc n0 sl0 nL code s') (hKg : ∀ s', K s' = some res → jx_le s'.2.2.2 res.2)
    (i : Nat) (ls : List (Nat × Value)) (st : List Value) (h : jxH)
    (r : jxRow) (hr : code[i]? = some r) (hdec : decode cc r.pc = .ok (r.ins, r.len)) (hw : jx_wf own nL ini rk (fun j => code[j]?) i r = true)
    (hh : jx_step rc jx_dflt c0 K r i ls st h = some res) : jx_On p l e R s m args below meth c Q bs rom D tc n0 sl0 nL code (i, ls, st, h) := by
  rintro pc' ⟨r0, hr0, hpc⟩ H locs cells slots ls' hM hl
  change code[i]? = some r0 at hr0
  cases hr.symm.trans hr0
  clear hr0
  change jx_M bs rom D tc s n0 sl0 h H locs cells slots at hM
  change lv_has ls' nL (jx_cvL bs rom ls) at hl
  show W p l e R s m args below meth c H locs cells slots Q (F0 m pc' ls' (st.map (jx_cv bs rom)))
  obtain ⟨pc, ins, len, ⟨x, y, z⟩, v, w, ts, lv⟩ := r
  change pc = pc' at hpc
  subst hpc
  change decode cc pc = .ok (ins, len) at hdec
  cases ins
  case iconst n =>
    obtain ⟨hw1, hw2⟩ := Bool.and_eq_true_iff.mp hw
    obtain ⟨q1, hn⟩ := jx_seq_spec hw1
    have q1 : len = 1 := q1
    subst q1
    exact lv_iconst hx hb hdec (of_decide_eq_true hw2) (hK _ hh _ hn H locs cells slots ls' hM hl)
  case bipush n =>
    obtain ⟨hw1, hw2⟩ := Bool.and_eq_true_iff.mp hw
    obtain ⟨q1, hn⟩ := jx_seq_spec hw1
    have q1 : len = 2 := q1
    subst q1
    exact lv_bipush hx hb hdec (of_decide_eq_true hw2) (hK _ hh _ hn H locs cells slots ls' hM hl)
  case sipush n =>
    obtain ⟨hw1, hw2⟩ := Bool.and_eq_true_iff.mp hw
    obtain ⟨q1, hn⟩ := jx_seq_spec hw1
    have q1 : len = 3 := q1
    subst q1
    exact lv_sipush hx hb hdec (of_decide_eq_true hw2) (hK _ hh _ hn H locs cells slots ls' hM hl)
  case lconst n =>
    obtain ⟨hw1, hw2⟩ := Bool.and_eq_true_iff.mp hw
    obtain ⟨q1, hn⟩ := jx_seq_spec hw1
    have q1 : len = 1 := q1
    subst q1
    exact lv_lconst hx hb hdec (of_decide_eq_true hw2) (hK _ hh _ hn H locs cells slots ls' hM hl)
  case ldc ix =>
    obtain ⟨hw1, hw2⟩ := Bool.and_eq_true_iff.mp hw
    obtain ⟨q1, hn⟩ := jx_seq_spec hw1
    have q1 : len = 2 := q1
    subst q1
    exact W.ldc hx hb hown (hts _ (jx_kl_spec hw2)) rfl hdec (hK _ hh _ hn H locs cells slots ls' hM hl)
  case ldc_w ix =>
    obtain ⟨hw1, hw2⟩ := Bool.and_eq_true_iff.mp hw
    obtain ⟨q1, hn⟩ := jx_seq_spec hw1
    have q1 : len = 3 := q1
    subst q1
    exact lv_ldcw hx hb hown (hts _ (jx_kl_spec hw2)) hdec (hK _ hh _ hn H locs cells slots ls' hM hl)
  case ldc2_w ix =>
    obtain ⟨hw1, hw2⟩ := Bool.and_eq_true_iff.mp hw
    obtain ⟨q1, hn⟩ := jx_seq_spec hw1
    have q1 : len = 3 := q1
    subst q1
    exact lv_ldc2 hx hb hown (hts _ (jx_kll_spec hw2)) hdec (hK _ hh _ hn H locs cells slots ls' hM hl)
  case aconst_null =>
    obtain ⟨q1, hn⟩ := jx_seq_spec hw
    have q1 : len = 1 := q1
    subst q1
    exact lv_null hx hb hdec (hK _ hh _ hn H locs cells slots ls' hM hl)
  case iload k =>
    obtain ⟨hw1, hw2⟩ := Bool.and_eq_true_iff.mp hw
    obtain ⟨q1, hn⟩ := jx_seq_spec hw1
    have q1 : len = 2 := q1
    subst q1
    have hk : k = x := of_decide_eq_true hw2
    subst hk
    obtain ⟨a, ha, hh⟩ := jx_lI_some hh
    exact lv_iload hx hb hdec (jx_has_ld hl ha) (hK _ hh _ hn H locs cells slots ls' hM hl)
  case iload_n k =>
    obtain ⟨hw1, hw2⟩ := Bool.and_eq_true_iff.mp hw
    obtain ⟨q1, hn⟩ := jx_seq_spec hw1
    have q1 : len = 1 := q1
    subst q1
    have hk : (k : Nat) = x := of_decide_eq_true hw2
    obtain ⟨a, ha, hh⟩ := jx_lI_some hh
    exact lv_iload_n hx hb hdec hk (jx_has_ld hl ha) (hK _ hh _ hn H locs cells slots ls' hM hl)
  case lload k =>
    obtain ⟨hw1, hw2⟩ := Bool.and_eq_true_iff.mp hw
    obtain ⟨q1, hn⟩ := jx_seq_spec hw1
    have q1 : len = 2 := q1
    subst q1
    have hk : k = x := of_decide_eq_true hw2
    subst hk
    obtain ⟨a, ha, hh⟩ := jx_lL_some hh
    exact lv_lload hx hb hdec (jx_has_ld hl ha) (hK _ hh _ hn H locs cells slots ls' hM hl)
  case lload_n k =>
    obtain ⟨hw1, hw2⟩ := Bool.and_eq_true_iff.mp hw
    obtain ⟨q1, hn⟩ := jx_seq_spec hw1
    have q1 : len = 1 := q1
    subst q1
    have hk : (k : Nat) = x := of_decide_eq_true hw2
    obtain ⟨a, ha, hh⟩ := jx_lL_some hh
    exact lv_lload_n hx hb hdec hk (jx_has_ld hl ha) (hK _ hh _ hn H locs cells slots ls' hM hl)
  case aload k =>
    obtain ⟨hw1, hw2⟩ := Bool.and_eq_true_iff.mp hw
    obtain ⟨q1, hn⟩ := jx_seq_spec hw1
    have q1 : len = 2 := q1
    subst q1
    have hk : k = x := of_decide_eq_true hw2
    subst hk
    have hq : jx_lA ls k (fun a => K (i + 1, ls, a :: st, h)) = some res := hh
    obtain ⟨a, ha, hv, hh⟩ := jx_lA_some hq
    rcases hv with ⟨j, rfl⟩ | ⟨j, rfl⟩ | rfl
    · exact lv_aload hx hb hdec (jx_has_ld hl ha) (hK _ hh _ hn H locs cells slots ls' hM hl)
    · exact lv_aload hx hb hdec (jx_has_ld hl ha) (hK _ hh _ hn H locs cells slots ls' hM hl)
    · exact lv_aloadN hx hb hdec (jx_has_ld hl ha) (hK _ hh _ hn H locs cells slots ls' hM hl)
  case aload_n k =>
    obtain ⟨hw1, hw2⟩ := Bool.and_eq_true_iff.mp hw
    obtain ⟨q1, hn⟩ := jx_seq_spec hw1
    have q1 : len = 1 := q1
    subst q1
    have hk : (k : Nat) = x := of_decide_eq_true hw2
    have hq : jx_lA ls x (fun a => K (i + 1, ls, a :: st, h)) = some res := hh
    obtain ⟨a, ha, hv, hh⟩ := jx_lA_some hq
    rcases hv with ⟨j, rfl⟩ | ⟨j, rfl⟩ | rfl
    · exact lv_aload_n hx hb hdec hk (jx_has_ld hl ha) (hK _ hh _ hn H locs cells slots ls' hM hl)
    · exact lv_aload_n hx hb hdec hk (jx_has_ld hl ha) (hK _ hh _ hn H locs cells slots ls' hM hl)
    · exact lv_aload_nN hx hb hdec hk (jx_has_ld hl ha) (hK _ hh _ hn H locs cells slots ls' hM hl)
  case istore k =>
    obtain ⟨hw1, hw2⟩ := Bool.and_eq_true_iff.mp hw
    obtain ⟨q1, hn⟩ := jx_seq_spec hw1
    have q1 : len = 2 := q1
    subst q1
    obtain ⟨hk, hkn⟩ := of_decide_eq_true hw2
    have hk : k = x := hk
    subst hk
    obtain ⟨a, t, rfl, hh⟩ := jx_1_some hh
    exact lv_istore hx hb hdec hl hkn (jx_cv_st1 ls k (.int a)) (fun ls2 hl2 => hK _ hh _ hn H locs cells slots ls2 hM hl2)
  case istore_n k =>
    obtain ⟨hw1, hw2⟩ := Bool.and_eq_true_iff.mp hw
    obtain ⟨q1, hn⟩ := jx_seq_spec hw1
    have q1 : len = 1 := q1
    subst q1
    obtain ⟨hk, hkn⟩ := of_decide_eq_true hw2
    have hk : (k : Nat) = x := hk
    obtain ⟨a, t, rfl, hh⟩ := jx_1_some hh
    exact lv_istore_n hx hb hdec hk hl (by omega) (jx_cv_st1 ls x (.int a)) (fun ls2 hl2 => hK _ hh _ hn H locs cells slots ls2 hM hl2)
  case lstore k =>
    obtain ⟨hw1, hw2⟩ := Bool.and_eq_true_iff.mp hw
    obtain ⟨q1, hn⟩ := jx_seq_spec hw1
    have q1 : len = 2 := q1
    subst q1
    obtain ⟨hk, hkn⟩ := of_decide_eq_true hw2
    have hk : k = x := hk
    subst hk
    obtain ⟨a, t, rfl, hh⟩ := jx_1L_some hh
    exact lv_lstore hx hb hdec hl hkn (jx_cv_st2 ls k (.long a)) (fun ls2 hl2 => hK _ hh _ hn H locs cells slots ls2 hM hl2)
  case lstore_n k =>
    obtain ⟨hw1, hw2⟩ := Bool.and_eq_true_iff.mp hw
    obtain ⟨q1, hn⟩ := jx_seq_spec hw1
    have q1 : len = 1 := q1
    subst q1
    obtain ⟨hk, hkn⟩ := of_decide_eq_true hw2
    have hk : (k : Nat) = x := hk
    obtain ⟨a, t, rfl, hh⟩ := jx_1L_some hh
    exact lv_lstore_n hx hb hdec hk hl (by omega) (jx_cv_st2 ls x (.long a)) (fun ls2 hl2 => hK _ hh _ hn H locs cells slots ls2 hM hl2)
  case astore k =>
    obtain ⟨hw1, hw2⟩ := Bool.and_eq_true_iff.mp hw
    obtain ⟨q1, hn⟩ := jx_seq_spec hw1
    have q1 : len = 2 := q1
    subst q1
    obtain ⟨hk, hkn⟩ := of_decide_eq_true hw2
    have hk : k = x := hk
    subst hk
    have hq : jx_pA st (fun a t => K (i + 1, jx_st1 ls k a, t, h)) = some res := hh
    obtain ⟨a, t, rfl, hv, hh⟩ := jx_pA_some hq
    rcases hv with ⟨j, rfl⟩ | rfl
    · exact lv_astore hx hb hdec hl hkn (jx_cv_st1 ls k (.ref j)) (fun ls2 hl2 => hK _ hh _ hn H locs cells slots ls2 hM hl2)
    · exact lv_astoreN hx hb hdec hl hkn (jx_cv_st1 ls k .null) (fun ls2 hl2 => hK _ hh _ hn H locs cells slots ls2 hM hl2)
  case astore_n k =>
    obtain ⟨hw1, hw2⟩ := Bool.and_eq_true_iff.mp hw
    obtain ⟨q1, hn⟩ := jx_seq_spec hw1
    have q1 : len = 1 := q1
    subst q1
    obtain ⟨hk, hkn⟩ := of_decide_eq_true hw2
    have hk : (k : Nat) = x := hk
    have hq : jx_pA st (fun a t => K (i + 1, jx_st1 ls x a, t, h)) = some res := hh
    obtain ⟨a, t, rfl, hv, hh⟩ := jx_pA_some hq
    rcases hv with ⟨j, rfl⟩ | rfl
    · exact lv_astore_n hx hb hdec hk hl (by omega) (jx_cv_st1 ls x (.ref j)) (fun ls2 hl2 => hK _ hh _ hn H locs cells slots ls2 hM hl2)
    · exact lv_astore_nN hx hb hdec hk hl (by omega) (jx_cv_st1 ls x .null) (fun ls2 hl2 => hK _ hh _ hn H locs cells slots ls2 hM hl2)
  case iinc k n =>
    obtain ⟨hw1, hw2⟩ := Bool.and_eq_true_iff.mp hw
    obtain ⟨q1, hn⟩ := jx_seq_spec hw1
    have q1 : len = 3 := q1
    subst q1
    obtain ⟨hk, hkn, hv⟩ := of_decide_eq_true hw2
    have hk : k = x := hk
    have hv : Int32.ofInt n = v := hv
    subst hk; subst hv
    obtain ⟨a, ha, hh⟩ := jx_lI_some hh
    obtain ⟨j, hj⟩ := List.getElem?_of_mem (List.mem_map.mpr ⟨(k, Value.int a), jx_ld_in ha, rfl⟩ : (k, Value.int a) ∈ jx_cvL bs rom ls)
    exact lv_iinc (v := a + Int32.ofInt n) hx hb hdec hl hj rfl hkn (jx_cv_st1 ls k (.int (a + Int32.ofInt n))) (fun ls2 hl2 => hK _ hh _ hn H locs cells slots ls2 hM hl2)
  case iadd =>
    obtain ⟨q1, hn⟩ := jx_seq_spec hw
    have q1 : len = 1 := q1
    subst q1
    obtain ⟨a, b, t, rfl, hh⟩ := jx_2_some hh
    exact lv_iadd hx hb hdec (hK _ hh _ hn H locs cells slots ls' hM hl)
  case isub =>
    obtain ⟨q1, hn⟩ := jx_seq_spec hw
    have q1 : len = 1 := q1
    subst q1
    obtain ⟨a, b, t, rfl, hh⟩ := jx_2_some hh
    exact lv_isub hx hb hdec (hK _ hh _ hn H locs cells slots ls' hM hl)
  case imul =>
    obtain ⟨q1, hn⟩ := jx_seq_spec hw
    have q1 : len = 1 := q1
    subst q1
    obtain ⟨a, b, t, rfl, hh⟩ := jx_2_some hh
    exact lv_imul hx hb hdec (hK _ hh _ hn H locs cells slots ls' hM hl)
  case iand =>
    obtain ⟨q1, hn⟩ := jx_seq_spec hw
    have q1 : len = 1 := q1
    subst q1
    obtain ⟨a, b, t, rfl, hh⟩ := jx_2_some hh
    exact lv_iand hx hb hdec (hK _ hh _ hn H locs cells slots ls' hM hl)
  case ior =>
    obtain ⟨q1, hn⟩ := jx_seq_spec hw
    have q1 : len = 1 := q1
    subst q1
    obtain ⟨a, b, t, rfl, hh⟩ := jx_2_some hh
    exact lv_ior hx hb hdec (hK _ hh _ hn H locs cells slots ls' hM hl)
  case ixor =>
    obtain ⟨q1, hn⟩ := jx_seq_spec hw
    have q1 : len = 1 := q1
    subst q1
    obtain ⟨a, b, t, rfl, hh⟩ := jx_2_some hh
    exact lv_ixor hx hb hdec (hK _ hh _ hn H locs cells slots ls' hM hl)
  case ishl =>
    obtain ⟨q1, hn⟩ := jx_seq_spec hw
    have q1 : len = 1 := q1
    subst q1
    obtain ⟨a, b, t, rfl, hh⟩ := jx_2_some hh
    exact lv_ishl hx hb hdec (hK _ hh _ hn H locs cells slots ls' hM hl)
  case ishr =>
    obtain ⟨q1, hn⟩ := jx_seq_spec hw
    have q1 : len = 1 := q1
    subst q1
    obtain ⟨a, b, t, rfl, hh⟩ := jx_2_some hh
    exact lv_ishr hx hb hdec (hK _ hh _ hn H locs cells slots ls' hM hl)
  case iushr =>
    obtain ⟨q1, hn⟩ := jx_seq_spec hw
    have q1 : len = 1 := q1
    subst q1
    obtain ⟨a, b, t, rfl, hh⟩ := jx_2_some hh
    exact lv_iushr hx hb hdec rfl (hK _ hh _ hn H locs cells slots ls' hM hl)
  case idiv =>
    obtain ⟨q1, hn⟩ := jx_seq_spec hw
    have q1 : len = 1 := q1
    subst q1
    obtain ⟨a, b, t, rfl, hh⟩ := jx_2_some hh
    rcases jx_if_some hh with ⟨hq, hh⟩ | ⟨hq, hh⟩
    · cases hh
    · exact lv_idiv hx hb hdec hq (hK _ hh _ hn H locs cells slots ls' hM hl)
  case irem =>
    obtain ⟨q1, hn⟩ := jx_seq_spec hw
    have q1 : len = 1 := q1
    subst q1
    obtain ⟨a, b, t, rfl, hh⟩ := jx_2_some hh
    rcases jx_if_some hh with ⟨hq, hh⟩ | ⟨hq, hh⟩
    · cases hh
    · exact lv_irem hx hb hdec hq (hK _ hh _ hn H locs cells slots ls' hM hl)
  case ladd =>
    obtain ⟨q1, hn⟩ := jx_seq_spec hw
    have q1 : len = 1 := q1
    subst q1
    obtain ⟨a, b, t, rfl, hh⟩ := jx_2L_some hh
    exact lv_ladd hx hb hdec (hK _ hh _ hn H locs cells slots ls' hM hl)
  case lsub =>
    obtain ⟨q1, hn⟩ := jx_seq_spec hw
    have q1 : len = 1 := q1
    subst q1
    obtain ⟨a, b, t, rfl, hh⟩ := jx_2L_some hh
    exact lv_lsub hx hb hdec (hK _ hh _ hn H locs cells slots ls' hM hl)
  case lmul =>
    obtain ⟨q1, hn⟩ := jx_seq_spec hw
    have q1 : len = 1 := q1
    subst q1
    obtain ⟨a, b, t, rfl, hh⟩ := jx_2L_some hh
    exact lv_lmul hx hb hdec (hK _ hh _ hn H locs cells slots ls' hM hl)
  case land =>
    obtain ⟨q1, hn⟩ := jx_seq_spec hw
    have q1 : len = 1 := q1
    subst q1
    obtain ⟨a, b, t, rfl, hh⟩ := jx_2L_some hh
    exact lv_land hx hb hdec (hK _ hh _ hn H locs cells slots ls' hM hl)
  case lor =>
    obtain ⟨q1, hn⟩ := jx_seq_spec hw
    have q1 : len = 1 := q1
    subst q1
    obtain ⟨a, b, t, rfl, hh⟩ := jx_2L_some hh
    exact lv_lor hx hb hdec (hK _ hh _ hn H locs cells slots ls' hM hl)
  case lxor =>
    obtain ⟨q1, hn⟩ := jx_seq_spec hw
    have q1 : len = 1 := q1
    subst q1
    obtain ⟨a, b, t, rfl, hh⟩ := jx_2L_some hh
    exact lv_lxor hx hb hdec (hK _ hh _ hn H locs cells slots ls' hM hl)
  case ldiv =>
    obtain ⟨q1, hn⟩ := jx_seq_spec hw
    have q1 : len = 1 := q1
    subst q1
    obtain ⟨a, b, t, rfl, hh⟩ := jx_2L_some hh
    rcases jx_if_some hh with ⟨hq, hh⟩ | ⟨hq, hh⟩
    · cases hh
    · exact lv_ldiv hx hb hdec hq (hK _ hh _ hn H locs cells slots ls' hM hl)
  case lrem =>
    obtain ⟨q1, hn⟩ := jx_seq_spec hw
    have q1 : len = 1 := q1
    subst q1
    obtain ⟨a, b, t, rfl, hh⟩ := jx_2L_some hh
    rcases jx_if_some hh with ⟨hq, hh⟩ | ⟨hq, hh⟩
    · cases hh
    · exact lv_lrem hx hb hdec hq (hK _ hh _ hn H locs cells slots ls' hM hl)
  case lcmp =>
    obtain ⟨q1, hn⟩ := jx_seq_spec hw
    have q1 : len = 1 := q1
    subst q1
    obtain ⟨a, b, t, rfl, hh⟩ := jx_2L_some hh
    exact W.lcmp hx hb hdec (hK _ hh _ hn H locs cells slots ls' hM hl)
  case ineg =>
    obtain ⟨q1, hn⟩ := jx_seq_spec hw
    have q1 : len = 1 := q1
    subst q1
    obtain ⟨a, t, rfl, hh⟩ := jx_1_some hh
    exact lv_ineg hx hb hdec (hK _ hh _ hn H locs cells slots ls' hM hl)
  case lneg =>
    obtain ⟨q1, hn⟩ := jx_seq_spec hw
    have q1 : len = 1 := q1
    subst q1
    obtain ⟨a, t, rfl, hh⟩ := jx_1L_some hh
    exact lv_lneg hx hb hdec (hK _ hh _ hn H locs cells slots ls' hM hl)
  case lshl =>
    obtain ⟨q1, hn⟩ := jx_seq_spec hw
    have q1 : len = 1 := q1
    subst q1
    obtain ⟨a, b, t, rfl, hh⟩ := jx_LI_some hh
    exact lv_lshl hx hb hdec rfl (hK _ hh _ hn H locs cells slots ls' hM hl)
  case lshr =>
    obtain ⟨q1, hn⟩ := jx_seq_spec hw
    have q1 : len = 1 := q1
    subst q1
    obtain ⟨a, b, t, rfl, hh⟩ := jx_LI_some hh
    exact lv_lshr hx hb hdec rfl (hK _ hh _ hn H locs cells slots ls' hM hl)
  case i2l =>
    obtain ⟨q1, hn⟩ := jx_seq_spec hw
    have q1 : len = 1 := q1
    subst q1
    obtain ⟨a, t, rfl, hh⟩ := jx_1_some hh
    exact lv_i2l hx hb hdec rfl (hK _ hh _ hn H locs cells slots ls' hM hl)
  case i2b =>
    obtain ⟨q1, hn⟩ := jx_seq_spec hw
    have q1 : len = 1 := q1
    subst q1
    obtain ⟨a, t, rfl, hh⟩ := jx_1_some hh
    exact lv_i2b hx hb hdec rfl (hK _ hh _ hn H locs cells slots ls' hM hl)
  case i2s =>
    obtain ⟨q1, hn⟩ := jx_seq_spec hw
    have q1 : len = 1 := q1
    subst q1
    obtain ⟨a, t, rfl, hh⟩ := jx_1_some hh
    exact lv_i2s hx hb hdec rfl (hK _ hh _ hn H locs cells slots ls' hM hl)
  case l2i =>
    obtain ⟨q1, hn⟩ := jx_seq_spec hw
    have q1 : len = 1 := q1
    subst q1
    obtain ⟨a, t, rfl, hh⟩ := jx_1L_some hh
    exact lv_l2i hx hb hdec rfl (hK _ hh _ hn H locs cells slots ls' hM hl)
  case dup =>
    obtain ⟨q1, hn⟩ := jx_seq_spec hw
    have q1 : len = 1 := q1
    subst q1
    have hq : jx_dup st (fun a t => K (i + 1, ls, a :: a :: t, h)) = some res := hh
    obtain ⟨a, t, rfl, hv, hh⟩ := jx_dup_some hq
    rcases hv with ⟨j, rfl⟩ | ⟨j, rfl⟩
    · exact lv_dup hx hb hdec rfl (hK _ hh _ hn H locs cells slots ls' hM hl)
    · exact lv_dup hx hb hdec rfl (hK _ hh _ hn H locs cells slots ls' hM hl)
  case dup2 =>
    obtain ⟨q1, hn⟩ := jx_seq_spec hw
    have q1 : len = 1 := q1
    subst q1
    have hq : jx_dup2 st (fun p t => K (i + 1, ls, p ++ (p ++ t), h)) = some res := hh
    obtain ⟨a, t, rfl, hv, hh⟩ := jx_dup2_some hq
    rcases hv with ⟨j, j2, rfl⟩ | ⟨j, j2, rfl⟩ | ⟨j, rfl⟩
    · exact lv_dup2_11 hx hb hdec rfl rfl (hK _ hh _ hn H locs cells slots ls' hM hl)
    · exact lv_dup2_11 hx hb hdec rfl rfl (hK _ hh _ hn H locs cells slots ls' hM hl)
    · exact lv_dup2_2 hx hb hdec rfl (hK _ hh _ hn H locs cells slots ls' hM hl)
  case pop =>
    obtain ⟨q1, hn⟩ := jx_seq_spec hw
    have q1 : len = 1 := q1
    subst q1
    obtain ⟨a, t, rfl, hh⟩ := jx_1_some hh
    exact lv_pop hx hb hdec rfl (hK _ hh _ hn H locs cells slots ls' hM hl)
  case ifCond cnd off =>
    obtain ⟨hw1, hw2⟩ := Bool.and_eq_true_iff.mp hw
    obtain ⟨q1, hn⟩ := jx_seq_spec hw1
    have q1 : len = 3 := q1
    subst q1
    obtain ⟨r2, hr2, ht⟩ := jx_to_spec hw2
    have hr2 : code[x]? = some r2 := hr2
    have ht : (pc : Int) + off = (r2.pc : Int) := ht
    cases cnd
    · obtain ⟨a, t, rfl, hh⟩ := jx_1_some hh
      refine lv_if_eq hx hb hdec ht (fun hq => ?_) (fun hq => ?_)
      · rcases jx_if_some hh with ⟨hc, hh⟩ | ⟨hc, hh⟩
        · exact hK _ hh _ ⟨r2, hr2, rfl⟩ H locs cells slots ls' hM hl
        · exact absurd hq hc
      · rcases jx_if_some hh with ⟨hc, hh⟩ | ⟨hc, hh⟩
        · exact absurd hc hq
        · exact hK _ hh _ hn H locs cells slots ls' hM hl
    · obtain ⟨a, t, rfl, hh⟩ := jx_1_some hh
      refine lv_if_ne hx hb hdec ht (fun hq => ?_) (fun hq => ?_)
      · rcases jx_if_some hh with ⟨hc, hh⟩ | ⟨hc, hh⟩
        · exact absurd hc hq
        · exact hK _ hh _ ⟨r2, hr2, rfl⟩ H locs cells slots ls' hM hl
      · rcases jx_if_some hh with ⟨hc, hh⟩ | ⟨hc, hh⟩
        · exact hK _ hh _ hn H locs cells slots ls' hM hl
        · exact absurd hq hc
    · obtain ⟨a, t, rfl, hh⟩ := jx_1_some hh
      refine lv_if_lt hx hb hdec ht (fun hq => ?_) (fun hq => ?_)
      · rcases jx_if_some hh with ⟨hc, hh⟩ | ⟨hc, hh⟩
        · exact hK _ hh _ ⟨r2, hr2, rfl⟩ H locs cells slots ls' hM hl
        · exact absurd hq hc
      · rcases jx_if_some hh with ⟨hc, hh⟩ | ⟨hc, hh⟩
        · exact absurd hc hq
        · exact hK _ hh _ hn H locs cells slots ls' hM hl
    · obtain ⟨a, t, rfl, hh⟩ := jx_1_some hh
      refine lv_if_ge hx hb hdec ht (fun hq => ?_) (fun hq => ?_)
      · rcases jx_if_some hh with ⟨hc, hh⟩ | ⟨hc, hh⟩
        · exact hK _ hh _ ⟨r2, hr2, rfl⟩ H locs cells slots ls' hM hl
        · exact absurd hq hc
      · rcases jx_if_some hh with ⟨hc, hh⟩ | ⟨hc, hh⟩
        · exact absurd hc hq
        · exact hK _ hh _ hn H locs cells slots ls' hM hl
    · obtain ⟨a, t, rfl, hh⟩ := jx_1_some hh
      refine lv_if_gt hx hb hdec ht (fun hq => ?_) (fun hq => ?_)
      · rcases jx_if_some hh with ⟨hc, hh⟩ | ⟨hc, hh⟩
        · exact hK _ hh _ ⟨r2, hr2, rfl⟩ H locs cells slots ls' hM hl
        · exact absurd hq hc
      · rcases jx_if_some hh with ⟨hc, hh⟩ | ⟨hc, hh⟩
        · exact absurd hc hq
        · exact hK _ hh _ hn H locs cells slots ls' hM hl
    · obtain ⟨a, t, rfl, hh⟩ := jx_1_some hh
      refine lv_if_le hx hb hdec ht (fun hq => ?_) (fun hq => ?_)
      · rcases jx_if_some hh with ⟨hc, hh⟩ | ⟨hc, hh⟩
        · exact hK _ hh _ ⟨r2, hr2, rfl⟩ H locs cells slots ls' hM hl
        · exact absurd hq hc
      · rcases jx_if_some hh with ⟨hc, hh⟩ | ⟨hc, hh⟩
        · exact absurd hc hq
        · exact hK _ hh _ hn H locs cells slots ls' hM hl
  case if_icmp cnd off =>
    obtain ⟨hw1, hw2⟩ := Bool.and_eq_true_iff.mp hw
    obtain ⟨q1, hn⟩ := jx_seq_spec hw1
    have q1 : len = 3 := q1
    subst q1
    obtain ⟨r2, hr2, ht⟩ := jx_to_spec hw2
    have hr2 : code[x]? = some r2 := hr2
    have ht : (pc : Int) + off = (r2.pc : Int) := ht
    cases cnd
    · obtain ⟨a, b, t, rfl, hh⟩ := jx_2_some hh
      refine lv_icmp_eq hx hb hdec ht (fun hq => ?_) (fun hq => ?_)
      · rcases jx_if_some hh with ⟨hc, hh⟩ | ⟨hc, hh⟩
        · exact hK _ hh _ ⟨r2, hr2, rfl⟩ H locs cells slots ls' hM hl
        · exact absurd hq hc
      · rcases jx_if_some hh with ⟨hc, hh⟩ | ⟨hc, hh⟩
        · exact absurd hc hq
        · exact hK _ hh _ hn H locs cells slots ls' hM hl
    · obtain ⟨a, b, t, rfl, hh⟩ := jx_2_some hh
      refine lv_icmp_ne hx hb hdec ht (fun hq => ?_) (fun hq => ?_)
      · rcases jx_if_some hh with ⟨hc, hh⟩ | ⟨hc, hh⟩
        · exact absurd hc hq
        · exact hK _ hh _ ⟨r2, hr2, rfl⟩ H locs cells slots ls' hM hl
      · rcases jx_if_some hh with ⟨hc, hh⟩ | ⟨hc, hh⟩
        · exact hK _ hh _ hn H locs cells slots ls' hM hl
        · exact absurd hq hc
    · obtain ⟨a, b, t, rfl, hh⟩ := jx_2_some hh
      refine lv_icmp_lt hx hb hdec ht (fun hq => ?_) (fun hq => ?_)
      · rcases jx_if_some hh with ⟨hc, hh⟩ | ⟨hc, hh⟩
        · exact hK _ hh _ ⟨r2, hr2, rfl⟩ H locs cells slots ls' hM hl
        · exact absurd hq hc
      · rcases jx_if_some hh with ⟨hc, hh⟩ | ⟨hc, hh⟩
        · exact absurd hc hq
        · exact hK _ hh _ hn H locs cells slots ls' hM hl
    · obtain ⟨a, b, t, rfl, hh⟩ := jx_2_some hh
      refine lv_icmp_ge hx hb hdec ht (fun hq => ?_) (fun hq => ?_)
      · rcases jx_if_some hh with ⟨hc, hh⟩ | ⟨hc, hh⟩
        · exact hK _ hh _ ⟨r2, hr2, rfl⟩ H locs cells slots ls' hM hl
        · exact absurd hq hc
      · rcases jx_if_some hh with ⟨hc, hh⟩ | ⟨hc, hh⟩
        · exact absurd hc hq
        · exact hK _ hh _ hn H locs cells slots ls' hM hl
    · obtain ⟨a, b, t, rfl, hh⟩ := jx_2_some hh
      refine lv_icmp_gt hx hb hdec ht (fun hq => ?_) (fun hq => ?_)
      · rcases jx_if_some hh with ⟨hc, hh⟩ | ⟨hc, hh⟩
        · exact hK _ hh _ ⟨r2, hr2, rfl⟩ H locs cells slots ls' hM hl
        · exact absurd hq hc
      · rcases jx_if_some hh with ⟨hc, hh⟩ | ⟨hc, hh⟩
        · exact absurd hc hq
        · exact hK _ hh _ hn H locs cells slots ls' hM hl
    · obtain ⟨a, b, t, rfl, hh⟩ := jx_2_some hh
      refine lv_icmp_le hx hb hdec ht (fun hq => ?_) (fun hq => ?_)
      · rcases jx_if_some hh with ⟨hc, hh⟩ | ⟨hc, hh⟩
        · exact hK _ hh _ ⟨r2, hr2, rfl⟩ H locs cells slots ls' hM hl
        · exact absurd hq hc
      · rcases jx_if_some hh with ⟨hc, hh⟩ | ⟨hc, hh⟩
        · exact absurd hc hq
        · exact hK _ hh _ hn H locs cells slots ls' hM hl
  case ifnull off =>
    obtain ⟨hw1, hw2⟩ := Bool.and_eq_true_iff.mp hw
    obtain ⟨q1, hn⟩ := jx_seq_spec hw1
    have q1 : len = 3 := q1
    subst q1
    obtain ⟨r2, hr2, ht⟩ := jx_to_spec hw2
    have hr2 : code[x]? = some r2 := hr2
    have ht : (pc : Int) + off = (r2.pc : Int) := ht
    rcases jx_nl_some hh with ⟨a, t, rfl, hh⟩ | ⟨t, rfl, hh⟩
    · exact lv_ifnull hx hb hdec (hK _ hh _ hn H locs cells slots ls' hM hl)
    · exact lv_ifnullN hx hb hdec ht (hK _ hh _ ⟨r2, hr2, rfl⟩ H locs cells slots ls' hM hl)
  case ifnonnull off =>
    obtain ⟨hw1, hw2⟩ := Bool.and_eq_true_iff.mp hw
    obtain ⟨q1, hn⟩ := jx_seq_spec hw1
    have q1 : len = 3 := q1
    subst q1
    obtain ⟨r2, hr2, ht⟩ := jx_to_spec hw2
    have hr2 : code[x]? = some r2 := hr2
    have ht : (pc : Int) + off = (r2.pc : Int) := ht
    rcases jx_nl_some hh with ⟨a, t, rfl, hh⟩ | ⟨t, rfl, hh⟩
    · exact lv_ifnonnull hx hb hdec ht (hK _ hh _ ⟨r2, hr2, rfl⟩ H locs cells slots ls' hM hl)
    · exact lv_ifnonnullN hx hb hdec (hK _ hh _ hn H locs cells slots ls' hM hl)
  case goto off =>
    obtain ⟨hw1, hw2⟩ := Bool.and_eq_true_iff.mp hw
    have q1 : len = 3 := of_decide_eq_true hw1
    subst q1
    obtain ⟨r2, hr2, ht⟩ := jx_to_spec hw2
    exact lv_goto hx hb hdec ht (hK _ hh _ ⟨r2, hr2, rfl⟩ H locs cells slots ls' hM hl)
  case tableswitch dd lo hi offs =>
    obtain ⟨hw1, hw2⟩ := Bool.and_eq_true_iff.mp hw
    obtain ⟨hw2, hw3⟩ := Bool.and_eq_true_iff.mp hw2
    obtain ⟨hw3, hw4⟩ := Bool.and_eq_true_iff.mp hw3
    obtain ⟨b1, b2, b3, b4⟩ := of_decide_eq_true hw2
    have b3 : hi - lo + 1 = (ts.length : Int) := b3
    have b4 : v = Int32.ofInt lo := b4
    have b5 : offs.size = ts.length := of_decide_eq_true hw3
    obtain ⟨a, t, rfl, hh⟩ := jx_1_some hh
    obtain ⟨lo', rfl⟩ : ∃ n : Nat, lo = (n : Int) := ⟨lo.toNat, by omega⟩
    have b4 : v = nI lo' := b4
    have hT : ∀ j, j < ts.length → (nI lo' + nI j).toInt = (lo' : Int) + j := fun j hj => by
      rw [nI_add, nI_toInt (by omega)]
      omega
    rcases jx_sw_find _ _ hh with ⟨j, tg, g1, g2, g3⟩ | ⟨g1, g2⟩
    · have hj : j < ts.length := (List.getElem?_eq_some_iff.mp g1).1
      have g2 : a = v + nI j := g2
      have hj2 : j < offs.toList.length := by rw [Array.length_toList, b5]; exact hj
      have hz : (offs.toList.zip ts)[j]? = some (offs.toList[j], tg) := by
        rw [List.getElem?_zip_eq_some]
        exact ⟨List.getElem?_eq_getElem hj2, g1⟩
      obtain ⟨r2, hr2, ht⟩ := jx_to_spec (List.all_eq_true.mp hw4 _ (List.mem_of_getElem? hz))
      have hai : a.toInt = (lo' : Int) + j := by rw [g2, b4]; exact hT j hj
      refine lv_tableIn (off := offs.toList[j]) (tgt := r2.pc) hx hb hdec (by omega) (by omega) ?_ ht (hK _ g3 _ ⟨r2, hr2, rfl⟩ H locs cells slots ls' hM hl)
      have e2 : (a.toInt - (lo' : Int)).toNat = j := by omega
      rw [e2, ← Array.getElem?_toList]
      exact List.getElem?_eq_getElem hj2
    · obtain ⟨r2, hr2, ht⟩ := jx_to_spec hw1
      refine lv_tableOut (tgt := r2.pc) hx hb hdec ?_ ht (hK _ g2 _ ⟨r2, hr2, rfl⟩ H locs cells slots ls' hM hl)
      rcases Int.lt_or_le a.toInt (lo' : Int) with q | q
      · exact Or.inl q
      · rcases Int.lt_or_le hi a.toInt with q2 | q2
        · exact Or.inr q2
        · exfalso
          have hj : (a.toInt - lo').toNat < ts.length := by omega
          refine g1 _ hj (Int32.toInt_inj.mp ?_)
          show a.toInt = (v + nI _).toInt
          rw [b4, hT _ hj]
          omega
  case getfield ix =>
    obtain ⟨hw1, hw2⟩ := Bool.and_eq_true_iff.mp hw
    obtain ⟨q1, hn⟩ := jx_seq_spec hw1
    have q1 : len = 3 := q1
    subst q1
    have hw2 : jx_hf own ix x y = true := hw2
    obtain ⟨a, t, rfl, hh⟩ := jx_r_some hh
    rcases z with _ | _ | z
    · obtain ⟨q, hq, hh⟩ := jx_bind_some hh
      obtain ⟨fs, f1, f2⟩ := jx_gI_inv hq
      exact jx_getf hx hb hown hts hWd hM.1 f1 f2 hw2 hdec (hK _ hh _ hn H locs cells slots ls' hM hl)
    · obtain ⟨q, hq, hh⟩ := jx_bind_some hh
      obtain ⟨fs, f1, f2⟩ := jx_gL_inv hq
      exact jx_getf hx hb hown hts hWd hM.1 f1 f2 hw2 hdec (hK _ hh _ hn H locs cells slots ls' hM hl)
    · obtain ⟨q, hq, hh⟩ := jx_bind_some hh
      obtain ⟨fs, f1, f2⟩ := jx_gR_inv hq
      exact jx_getf hx hb hown hts hWd hM.1 f1 f2 hw2 hdec (hK _ hh _ hn H locs cells slots ls' hM hl)
  case putfield ix =>
    obtain ⟨hw1, hw2⟩ := Bool.and_eq_true_iff.mp hw
    obtain ⟨q1, hn⟩ := jx_seq_spec hw1
    have q1 : len = 3 := q1
    subst q1
    obtain ⟨hw2, hw3⟩ := Bool.and_eq_true_iff.mp hw2
    obtain ⟨hw3, hw4⟩ := Bool.and_eq_true_iff.mp hw3
    have hw2 : jx_hf own ix x y = true := hw2
    have hw3 : jx_zty z (jx_fty x y) = true := hw3
    have hw4 : jx_fin ini own ix x y = true := hw4
    have hh0 : jx_pv z st (fun v a t => (jx_pF (jx_at h a) x y v).bind fun e => K (i + 1, ls, t, jx_set h a e)) = some res := hh
    clear hh
    obtain ⟨q, a, t, rfl, hz, hh⟩ := jx_pv_some hh0
    clear hh0
    obtain ⟨en, he, hh⟩ := jx_bind_some hh
    obtain ⟨fs, f1, f2, rfl⟩ := jx_pF_inv he
    have hnf : narrow (jx_fty x y) (jx_cv bs rom q) = jx_cv bs rom q ∧ fits (jx_fty x y) (jx_cv bs rom q) = true := by
      rcases hz with ⟨h0, k, rfl⟩ | ⟨h0, k, rfl⟩ | ⟨h0, k, rfl⟩ | ⟨h0, k, hk, rfl⟩
      · subst h0
        rw [of_decide_eq_true hw3]
        exact ⟨rfl, rfl⟩
      · subst h0
        rw [of_decide_eq_true hw3]
        exact ⟨rfl, rfl⟩
      · subst h0
        have hw3 : jx_isRef (jx_fty x y) = true := hw3
        cases hty : jx_fty x y <;> rw [hty] at hw3 <;> first | (cases hw3; done) | exact ⟨rfl, rfl⟩
      · obtain ⟨z', rfl⟩ : ∃ z', z = z' + 3 := ⟨z - 3, by omega⟩
        rw [of_decide_eq_true hw3]
        unfold jx_bool at hk
        rw [Bool.or_eq_true, beq_iff_eq, beq_iff_eq] at hk
        rcases hk with rfl | rfl
        · exact ⟨(by decide : narrow FieldType.boolean (Value.int 0) = Value.int 0), (by decide : fits FieldType.boolean (Value.int 0) = true)⟩
        · exact ⟨(by decide : narrow FieldType.boolean (Value.int 1) = Value.int 1), (by decide : fits FieldType.boolean (Value.int 1) = true)⟩
    exact jx_putf hx hb hown hts hWd hini hM f1 f2 hw2 hw4 hnf.1 hnf.2 hdec (fun H1 locs1 hM1 => hK _ hh _ hn H1 locs1 cells slots ls' hM1 hl)
  case getstatic ix =>
    obtain ⟨hw1, hw2⟩ := Bool.and_eq_true_iff.mp hw
    obtain ⟨q1, hn⟩ := jx_seq_spec hw1
    have q1 : len = 3 := q1
    subst q1
    obtain ⟨hw2, hw3⟩ := Bool.and_eq_true_iff.mp hw2
    obtain ⟨k1, k3⟩ := of_decide_eq_true hw3
    exact va_gets hx hb (hWd.2.2.2.2.2 x k1 k3) hM.2.1 hown (hts _ (jx_sl_spec hw2)) (fun _ q => q) hdec (hK _ hh _ hn H locs cells slots ls' hM hl)
  case iaload =>
    obtain ⟨q1, hn⟩ := jx_seq_spec hw
    have q1 : len = 1 := q1
    subst q1
    rcases jx_ir_some hh with ⟨k, a, t, rfl, hh⟩ | ⟨k, a, t, rfl, hh⟩
    · obtain ⟨q, hq, hh⟩ := jx_bind_some hh
      obtain ⟨n, g, f1, f2, rfl⟩ := jx_aI_inv hq
      exact va_iald hx hb hWd.1 hM.1.1 a 0 (f := g) (jx_hasCell hM.1 f1).2 rfl f2 hdec (hK _ hh _ hn H locs cells slots ls' hM hl)
    · rcases jx_if_some hh with ⟨hq, hh⟩ | ⟨hq, hh⟩
      · cases hh
      · have hq : jx_out k (rc a).1 = false := by simpa using hq
        obtain ⟨x1, x2⟩ := hWd.2.2.2.2.1 a
        exact va_ti hx hb x2 hM.2.1 (jx_out_in hq) rfl hdec (hK _ hh _ hn H locs cells slots ls' hM hl)
  case baload =>
    obtain ⟨q1, hn⟩ := jx_seq_spec hw
    have q1 : len = 1 := q1
    subst q1
    obtain ⟨k, a, t, rfl, hh⟩ := jx_ia_some hh
    by_cases h2 : z = 2
    · subst h2
      obtain ⟨q, hq, hh⟩ := jx_bind_some hh
      obtain ⟨n, g, f1, f2, rfl⟩ := jx_aI_inv hq
      exact va_bald hx hb hWd.1 hM.1.1 a 2 (f := fun j => (g j).toInt8.toInt32) (jx_hasCell hM.1 f1).2 rfl f2 hdec (hK _ hh _ hn H locs cells slots ls' hM hl)
    · have hh : (jx_aI (jx_at h a) 3 k).bind (fun v => K (i + 1, ls, .int v :: t, h)) = some res := by
        rw [← hh]
        rcases z with _ | _ | _ | z <;> first | rfl | exact absurd rfl h2
      obtain ⟨q, hq, hh⟩ := jx_bind_some hh
      obtain ⟨n, g, f1, f2, rfl⟩ := jx_aI_inv hq
      exact va_zald hx hb hWd.1 hM.1.1 a 3 (f := g) (jx_hasCell hM.1 f1).2 rfl f2 hdec (hK _ hh _ hn H locs cells slots ls' hM hl)
  case laload =>
    obtain ⟨q1, hn⟩ := jx_seq_spec hw
    have q1 : len = 1 := q1
    subst q1
    obtain ⟨k, a, t, rfl, hh⟩ := jx_ia_some hh
    obtain ⟨q, hq, hh⟩ := jx_bind_some hh
    obtain ⟨n, g, f1, f2, rfl⟩ := jx_aL_inv hq
    exact va_lald hx hb hWd.1 hM.1.1 a 1 (f := g) (jx_hasCell hM.1 f1).2 rfl f2 hdec (hK _ hh _ hn H locs cells slots ls' hM hl)
  case aaload =>
    obtain ⟨hw1, hw2⟩ := Bool.and_eq_true_iff.mp hw
    obtain ⟨q1, hn⟩ := jx_seq_spec hw1
    have q1 : len = 1 := q1
    subst q1
    obtain ⟨z4, z8⟩ := of_decide_eq_true hw2
    obtain ⟨k, a, t, rfl, hh⟩ := jx_ia_some hh
    obtain ⟨q, hq, hh⟩ := jx_bind_some hh
    obtain ⟨n, g, f1, f2, rfl⟩ := jx_aQ_inv hq
    have hh1 := jx_ov_some hh
    have hkk0 := hK _ hh1 _ hn H locs cells slots ls' hM hl
    have hkk : W p l e R s m args below meth c H locs cells slots Q (F0 m (pc + 1) ls' (jx_cv bs rom (va_rf (g k.toNatClampNeg)) :: t.map (jx_cv bs rom))) := hkk0
    clear hkk0
    rw [jx_cv_rf] at hkk
    have hc := (jx_hasCell hM.1 f1).2
    rcases (show z = 4 ∨ z = 5 ∨ z = 6 ∨ z = 7 ∨ z = 8 from by have : 4 ≤ z := z4; have : z ≤ 8 := z8; omega) with rfl | rfl | rfl | rfl | rfl
    · exact jx_aald hx hb hWd.1 hM.1.1 a 4 (f := fun j => (g j).map (fun a => bs + a)) hc rfl rfl f2 hdec hkk
    · exact jx_aald hx hb hWd.1 hM.1.1 a 5 (f := fun j => (g j).map (fun a => bs + a)) hc rfl rfl f2 hdec hkk
    · exact jx_aald hx hb hWd.1 hM.1.1 a 6 (f := fun j => (g j).map (fun a => bs + a)) hc rfl rfl f2 hdec hkk
    · exact jx_aald hx hb hWd.1 hM.1.1 a 7 (f := fun j => (g j).map (fun a => bs + a)) hc rfl rfl f2 hdec hkk
    · exact jx_aald hx hb hWd.1 hM.1.1 a 8 (f := fun j => (g j).map (fun a => bs + a)) hc rfl rfl f2 hdec hkk
  case aastore =>
    obtain ⟨hw1, hw2⟩ := Bool.and_eq_true_iff.mp hw
    obtain ⟨q1, hn⟩ := jx_seq_spec hw1
    have q1 : len = 1 := q1
    subst q1
    have hz : (z = 4 ∧ x = 1) ∨ (z = 5 ∧ x = 4) ∨ (z = 6 ∧ x = 6) ∨ (z = 7 ∧ x = 8) := of_decide_eq_true hw2
    rcases jx_vsQ_some hh with ⟨q, k, a, t, rfl, hh⟩ | ⟨k, a, t, rfl, hh⟩
    · rcases jx_if_some hh with ⟨hq, hh⟩ | ⟨hq, hh⟩
      · obtain ⟨en, he, hh⟩ := jx_bind_some hh
        obtain ⟨n, g, f1, f2, rfl⟩ := jx_sQ_inv he
        obtain ⟨g1, g2⟩ := jx_hasCell hM.1 f1
        obtain ⟨fs, hv⟩ := jx_is_inv hq
        have hv2 := hM.1.at hv (by simp)
        have hkk := jx_fin_set (p := p) (l := l) (e := e) (R := R) (args := args) (below := below) (meth := meth) (c := c) (Q := Q) (m := m) (g := F0 m (pc + 1) ls' (t.map (jx_cv bs rom))) hM g1 (fun H1 locs1 hM1 => hK _ hh _ hn H1 locs1 cells slots ls' hM1 hl)
        rw [jx_cvE_upQ] at hkk
        rcases hz with ⟨rfl, rfl⟩ | ⟨rfl, rfl⟩ | ⟨rfl, rfl⟩ | ⟨rfl, rfl⟩
        · exact va_astq hx hb hWd.1 hM.1.1 jx_ws_D (jx_S0 hM) a 4 q 1 (r := (RX1, TX1, 3)) g2 rfl hv2 rfl f2 hdec hkk
        · exact va_astq hx hb hWd.1 hM.1.1 jx_ws_D (jx_S0 hM) a 5 q 4 (r := (RX4, TX4, 2)) g2 rfl hv2 rfl f2 hdec hkk
        · exact va_astq hx hb hWd.1 hM.1.1 jx_ws_D (jx_S0 hM) a 6 q 6 (r := (RX6, TX6, 7)) g2 rfl hv2 rfl f2 hdec hkk
        · exact va_astq hx hb hWd.1 hM.1.1 jx_ws_D (jx_S0 hM) a 7 q 8 (r := (RX8, TX8, 2)) g2 rfl hv2 rfl f2 hdec hkk
      · cases hh
    · obtain ⟨en, he, hh⟩ := jx_bind_some hh
      obtain ⟨n, g, f1, f2, rfl⟩ := jx_sQ_inv he
      obtain ⟨g1, g2⟩ := jx_hasCell hM.1 f1
      have hkk := jx_fin_set (p := p) (l := l) (e := e) (R := R) (args := args) (below := below) (meth := meth) (c := c) (Q := Q) (m := m) (g := F0 m (pc + 1) ls' (t.map (jx_cv bs rom))) hM g1 (fun H1 locs1 hM1 => hK _ hh _ hn H1 locs1 cells slots ls' hM1 hl)
      rw [jx_cvE_upN] at hkk
      rcases hz with ⟨rfl, rfl⟩ | ⟨rfl, rfl⟩ | ⟨rfl, rfl⟩ | ⟨rfl, rfl⟩
      · exact va_astqN hx hb hWd.1 hM.1.1 jx_ws_D (jx_S0 hM) a 4 g2 rfl f2 hdec hkk
      · exact va_astqN hx hb hWd.1 hM.1.1 jx_ws_D (jx_S0 hM) a 5 g2 rfl f2 hdec hkk
      · exact va_astqN hx hb hWd.1 hM.1.1 jx_ws_D (jx_S0 hM) a 6 g2 rfl f2 hdec hkk
      · exact va_astqN hx hb hWd.1 hM.1.1 jx_ws_D (jx_S0 hM) a 7 g2 rfl f2 hdec hkk
  case arraylength =>
    obtain ⟨q1, hn⟩ := jx_seq_spec hw
    have q1 : len = 1 := q1
    subst q1
    rcases jx_rr_some hh with ⟨a, t, rfl, hh⟩ | ⟨a, t, rfl, hh⟩
    · obtain ⟨n, hq, hh⟩ := jx_bind_some hh
      obtain ⟨tg, g, f1, f2⟩ := jx_len_inv hq
      have hty : (jx_tys tc)[tg]? = some (tc tg, jx_ty tg) := jx_tys_at f2
      exact va_alen hx hb hWd.1 hM.1.1 a tg (jx_hasCell hM.1 f1).2 hty rfl hdec (hK _ hh _ hn H locs cells slots ls' hM hl)
    · obtain ⟨x1, x2⟩ := hWd.2.2.2.2.1 a
      exact va_tlen hx hb x2 hM.2.1 rfl hdec (hK _ hh _ hn H locs cells slots ls' hM hl)
  case new ix =>
    obtain ⟨hw1, hw2⟩ := Bool.and_eq_true_iff.mp hw
    obtain ⟨q1, hn⟩ := jx_seq_spec hw1
    have q1 : len = 3 := q1
    subst q1
    obtain ⟨hw2, hw3⟩ := Bool.and_eq_true_iff.mp hw2
    obtain ⟨r, hr1, c1, c2, c3⟩ := jx_hc_spec hw2
    have hr1 : vwCl[x]? = some r := hr1
    have hw3 : (vwCl[x]?.map (fun q => q.2.2)) = some y := of_decide_eq_true hw3
    rw [hr1] at hw3
    have hy : r.2.2 = y := Option.some.inj hw3
    subst hy
    have hle : jx_le (jx_new h r.2.2 (.inl (x, jx_dflt x))) res.2 := hKg _ hh
    have l1 : h.1 + 1 ≤ res.2.1 := hle.1
    have l2 : h.2.1 + r.2.2 ≤ res.2.2.1 := hle.2
    obtain ⟨m1, m2, m3, m4, m5⟩ := id hM
    have hkk := jx_fin_new (p := p) (l := l) (e := e) (R := R) (args := args) (below := below) (meth := meth) (c := c) (Q := Q) (m := m) (n := r.2.2) (en := .inl (x, jx_dflt x)) (g := fun q => F0 m (pc + 3) ls' (.ref q :: st.map (jx_cv bs rom))) hM (fun H1 hM1 => hK _ hh _ hn H1 locs (cells + 1) _ ls' hM1 hl)
    rw [show jx_cvE bs rom tc (.inl (x, jx_dflt x)) = .inr (x, jx_dflt x) from by show Sum.inr (x, (jx_dflt x).map (jx_cv bs rom)) = _; rw [jx_dflt_cv]] at hkk
    exact va_new hx hb hts (jx_lay_in hr1) (jx_fty x) (jx_cls_ok hr1).1 hown (hts _ c1) (hts _ c2) (hts _ c3) hWd.1 hM.1.1 jx_ws_D (jx_S0 hM) (jx_A0 hM) hr1 (jx_dflt_ok hr1).2 (by omega) (by omega) hdec hkk
  case newarray a =>
    obtain ⟨hw1, hw2⟩ := Bool.and_eq_true_iff.mp hw
    obtain ⟨q1, hn⟩ := jx_seq_spec hw1
    have q1 : len = 2 := q1
    subst q1
    have hw2 : jx_at4 a x = true := hw2
    obtain ⟨n, t, rfl, hh⟩ := jx_1_some hh
    rcases jx_if_some hh with ⟨hq, hh⟩ | ⟨hq, hh⟩
    · cases hh
    · obtain ⟨n1, n2⟩ := not_or.mp hq
      obtain ⟨j, hj, rfl⟩ := nI_of2 (M := 5000) (n := 5000) (by decide) n1 (by simpa using n2)
      rw [nI_clamp (by omega)] at hh
      have hle := hKg _ hh
      have l1 : h.1 + 1 ≤ res.2.1 := hle.1
      have l2 : h.2.1 + j ≤ res.2.2.1 := hle.2
      obtain ⟨m1, m2, m3, m4, m5⟩ := id hM
      cases a <;> first | (cases hw2; done) | skip
      case boolean =>
        cases (of_decide_eq_true hw2 : x = 3)
        exact va_newa (atype := .boolean) (ty := .boolean) (a0 := (j, .inl (fun _ => 0))) hx hb (hts _ (jx_arr_in 3 rfl)) rfl hWd.1 hM.1.1 jx_ws_D (jx_S0 hM) (jx_A0 hM) (fun _ => rfl) (by simpa using n1) (nI_clamp (by omega)) (by show j * 1 ≤ _; omega) (by omega) (by omega) hdec (fun q cA H1 hK1 hP1 hD1 hS1 => by
          cases jx_arr_same (t := 3) (by omega) hWd.1 hK1
          exact jx_fin_new (n := j) (en := jxI 3 j (fun _ => 0)) (g := fun q => F0 m (pc + 2) ls' (.ref q :: t.map (jx_cv bs rom))) hM (fun H1 hM1 => hK _ hh _ hn H1 locs (cells + 1) _ ls' hM1 hl) q H1 hP1 hD1 hS1)
      case byte =>
        cases (of_decide_eq_true hw2 : x = 2)
        exact va_newa (atype := .byte) (ty := .byte) (a0 := (j, .inl (fun _ => 0))) hx hb (hts _ (jx_arr_in 2 rfl)) rfl hWd.1 hM.1.1 jx_ws_D (jx_S0 hM) (jx_A0 hM) (fun _ => rfl) (by simpa using n1) (nI_clamp (by omega)) (by show j * 1 ≤ _; omega) (by omega) (by omega) hdec (fun q cA H1 hK1 hP1 hD1 hS1 => by
          cases jx_arr_same (t := 2) (by omega) hWd.1 hK1
          exact jx_fin_new (n := j) (en := jxI 2 j (fun _ => 0)) (g := fun q => F0 m (pc + 2) ls' (.ref q :: t.map (jx_cv bs rom))) hM (fun H1 hM1 => hK _ hh _ hn H1 locs (cells + 1) _ ls' hM1 hl) q H1 hP1 hD1 hS1)
      case int =>
        cases (of_decide_eq_true hw2 : x = 0)
        exact va_newa (atype := .int) (ty := .int) (a0 := (j, .inl (fun _ => 0))) hx hb (hts _ (jx_arr_in 0 rfl)) rfl hWd.1 hM.1.1 jx_ws_D (jx_S0 hM) (jx_A0 hM) (fun _ => rfl) (by simpa using n1) (nI_clamp (by omega)) (by show j * 4 ≤ _; omega) (by omega) (by omega) hdec (fun q cA H1 hK1 hP1 hD1 hS1 => by
          cases jx_arr_same (t := 0) (by omega) hWd.1 hK1
          exact jx_fin_new (n := j) (en := jxI 0 j (fun _ => 0)) (g := fun q => F0 m (pc + 2) ls' (.ref q :: t.map (jx_cv bs rom))) hM (fun H1 hM1 => hK _ hh _ hn H1 locs (cells + 1) _ ls' hM1 hl) q H1 hP1 hD1 hS1)
      case long =>
        cases (of_decide_eq_true hw2 : x = 1)
        exact va_newa (atype := .long) (ty := .long) (a0 := (j, .inr (.inl (fun _ => 0)))) hx hb (hts _ (jx_arr_in 1 rfl)) rfl hWd.1 hM.1.1 jx_ws_D (jx_S0 hM) (jx_A0 hM) (fun _ => rfl) (by simpa using n1) (nI_clamp (by omega)) (by show j * 8 ≤ _; omega) (by omega) (by omega) hdec (fun q cA H1 hK1 hP1 hD1 hS1 => by
          cases jx_arr_same (t := 1) (by omega) hWd.1 hK1
          exact jx_fin_new (n := j) (en := jxL j (fun _ => 0)) (g := fun q => F0 m (pc + 2) ls' (.ref q :: t.map (jx_cv bs rom))) hM (fun H1 hM1 => hK _ hh _ hn H1 locs (cells + 1) _ ls' hM1 hl) q H1 hP1 hD1 hS1)
  case anewarray ix =>
    obtain ⟨hw1, hw2⟩ := Bool.and_eq_true_iff.mp hw
    obtain ⟨q1, hn⟩ := jx_seq_spec hw1
    have q1 : len = 3 := q1
    subst q1
    obtain ⟨n, t, rfl, hh⟩ := jx_1_some hh
    rcases jx_if_some hh with ⟨hq, hh⟩ | ⟨hq, hh⟩
    · cases hh
    · obtain ⟨n1, n2⟩ := not_or.mp hq
      obtain ⟨j, hj, rfl⟩ := nI_of2 (M := 5000) (n := 5000) (by decide) n1 (by simpa using n2)
      rw [nI_clamp (by omega)] at hh
      have hle := hKg _ hh
      have l1 : h.1 + 1 ≤ res.2.1 := hle.1
      have l2 : h.2.1 + j ≤ res.2.2.1 := hle.2
      obtain ⟨m1, m2, m3, m4, m5⟩ := id hM
      simp only [Bool.or_eq_true, Bool.and_eq_true, decide_eq_true_eq] at hw2
      rcases hw2 with (⟨e1, h1⟩ | ⟨e1, h1⟩ | ⟨e1, h1⟩) | ⟨e1, h1⟩
      · have e1 : x = 4 := e1
        subst e1
        obtain ⟨r, hr1, c1, -, -⟩ := jx_hc_spec h1
        cases hr1
        exact va_newq (C := "RoomTrees$Forest") hx hb hown (hts _ c1) hWd.2.2.1.1 hWd.1 hM.1.1 jx_ws_D (jx_S0 hM) (jx_A0 hM) (by simpa using n1) (nI_clamp (by omega)) (by omega) (by omega) (by omega) hdec (fun q cA H1 hK1 hP1 hD1 hS1 => by
          cases jx_arr_same (t := 4) (by omega) hWd.1 hK1
          exact jx_fin_new (n := j) (en := jxQ 4 j (fun _ => none)) (g := fun q => F0 m (pc + 3) ls' (.ref q :: t.map (jx_cv bs rom))) hM (fun H1 hM1 => hK _ hh _ hn H1 locs (cells + 1) _ ls' hM1 hl) q H1 hP1 hD1 hS1)
      · have e1 : x = 6 := e1
        subst e1
        obtain ⟨r, hr1, c1, -, -⟩ := jx_hc_spec h1
        cases hr1
        exact va_newq (C := "RoomTrees$Step") hx hb hown (hts _ c1) hWd.2.2.1.2.2.1 hWd.1 hM.1.1 jx_ws_D (jx_S0 hM) (jx_A0 hM) (by simpa using n1) (nI_clamp (by omega)) (by omega) (by omega) (by omega) hdec (fun q cA H1 hK1 hP1 hD1 hS1 => by
          cases jx_arr_same (t := 6) (by omega) hWd.1 hK1
          exact jx_fin_new (n := j) (en := jxQ 6 j (fun _ => none)) (g := fun q => F0 m (pc + 3) ls' (.ref q :: t.map (jx_cv bs rom))) hM (fun H1 hM1 => hK _ hh _ hn H1 locs (cells + 1) _ ls' hM1 hl) q H1 hP1 hD1 hS1)
      · have e1 : x = 7 := e1
        subst e1
        obtain ⟨r, hr1, c1, -, -⟩ := jx_hc_spec h1
        cases hr1
        exact va_newq (C := "RoomTrees$Text") hx hb hown (hts _ c1) hWd.2.2.1.2.2.2.1 hWd.1 hM.1.1 jx_ws_D (jx_S0 hM) (jx_A0 hM) (by simpa using n1) (nI_clamp (by omega)) (by omega) (by omega) (by omega) hdec (fun q cA H1 hK1 hP1 hD1 hS1 => by
          cases jx_arr_same (t := 7) (by omega) hWd.1 hK1
          exact jx_fin_new (n := j) (en := jxQ 7 j (fun _ => none)) (g := fun q => F0 m (pc + 3) ls' (.ref q :: t.map (jx_cv bs rom))) hM (fun H1 hM1 => hK _ hh _ hn H1 locs (cells + 1) _ ls' hM1 hl) q H1 hP1 hD1 hS1)
      · have e1 : x = 5 := e1
        subst e1
        obtain ⟨r, hr1, c1, -, -⟩ := jx_hc_spec h1
        cases hr1
        exact va_newq (C := "RoomTrees$Sheet") hx hb hown (hts _ c1) hWd.2.2.1.2.1 hWd.1 hM.1.1 jx_ws_D (jx_S0 hM) (jx_A0 hM) (by simpa using n1) (nI_clamp (by omega)) (by omega) (by omega) (by omega) hdec (fun q cA H1 hK1 hP1 hD1 hS1 => by
          cases jx_arr_same (t := 5) (by omega) hWd.1 hK1
          exact jx_fin_new (n := j) (en := jxQ 5 j (fun _ => none)) (g := fun q => F0 m (pc + 3) ls' (.ref q :: t.map (jx_cv bs rom))) hM (fun H1 hM1 => hK _ hh _ hn H1 locs (cells + 1) _ ls' hM1 hl) q H1 hP1 hD1 hS1)
  case iastore =>
    obtain ⟨q1, hn⟩ := jx_seq_spec hw
    have q1 : len = 1 := q1
    subst q1
    obtain ⟨q, k, a, t, rfl, hh⟩ := jx_vs_some hh
    obtain ⟨en, he, hh⟩ := jx_bind_some hh
    obtain ⟨n, g, f1, f2, rfl⟩ := jx_sI_inv he
    obtain ⟨g1, g2⟩ := jx_hasCell hM.1 f1
    exact va_iast hx hb hWd.1 hM.1.1 jx_ws_D (jx_S0 hM) a 0 (f := g) g2 rfl f2 hdec (jx_fin_set hM g1 (fun H1 locs1 hM1 => hK _ hh _ hn H1 locs1 cells slots ls' hM1 hl))
  case bastore =>
    obtain ⟨q1, hn⟩ := jx_seq_spec hw
    have q1 : len = 1 := q1
    subst q1
    obtain ⟨q, k, a, t, rfl, hh⟩ := jx_vs_some hh
    by_cases h2 : z = 2
    · subst h2
      obtain ⟨en, he, hh⟩ := jx_bind_some hh
      obtain ⟨n, g, f1, f2, rfl⟩ := jx_sI_inv he
      obtain ⟨g1, g2⟩ := jx_hasCell hM.1 f1
      have hkk := jx_fin_set (p := p) (l := l) (e := e) (R := R) (args := args) (below := below) (meth := meth) (c := c) (Q := Q) (m := m) (g := F0 m (pc + 1) ls' (t.map (jx_cv bs rom))) hM g1 (fun H1 locs1 hM1 => hK _ hh _ hn H1 locs1 cells slots ls' hM1 hl)
      have e1 : jx_cvE bs rom tc (.inr (.inl (2, n, .inl (upd g k.toNatClampNeg q.toInt8.toInt32)))) = .inl (tc 2, n, .inl (upd (fun j => (g j).toInt8.toInt32) k.toNatClampNeg (vp_nar .byte q))) := by
        rw [← jx_updcv]
        rfl
      rw [e1] at hkk
      exact va_bast hx hb hWd.1 hM.1.1 jx_ws_D (jx_S0 hM) a 2 (f := fun j => (g j).toInt8.toInt32) g2 rfl f2 hdec hkk
    · have hh : (if jx_bool q = true then (jx_sI (jx_at h a) 3 k q).bind (fun e => K (i + 1, ls, t, jx_set h a e)) else none) = some res := by
        rw [← hh]
        rcases z with _ | _ | _ | z <;> first | rfl | exact absurd rfl h2
      rcases jx_if_some hh with ⟨hq, hh⟩ | ⟨hq, hh⟩
      · obtain ⟨en, he, hh⟩ := jx_bind_some hh
        obtain ⟨n, g, f1, f2, rfl⟩ := jx_sI_inv he
        obtain ⟨g1, g2⟩ := jx_hasCell hM.1 f1
        have hkk := jx_fin_set (p := p) (l := l) (e := e) (R := R) (args := args) (below := below) (meth := meth) (c := c) (Q := Q) (m := m) (g := F0 m (pc + 1) ls' (t.map (jx_cv bs rom))) hM g1 (fun H1 locs1 hM1 => hK _ hh _ hn H1 locs1 cells slots ls' hM1 hl)
        have e2 : vp_nar .boolean q = q := by
          unfold jx_bool at hq
          rw [Bool.or_eq_true, beq_iff_eq, beq_iff_eq] at hq
          rcases hq with rfl | rfl <;> decide
        have e1 : jx_cvE bs rom tc (.inr (.inl (3, n, .inl (upd g k.toNatClampNeg q)))) = .inl (tc 3, n, .inl (upd g k.toNatClampNeg (vp_nar .boolean q))) := by
          rw [e2]
          rfl
        rw [e1] at hkk
        exact va_zast hx hb hWd.1 hM.1.1 jx_ws_D (jx_S0 hM) a 3 (f := g) g2 rfl f2 hdec hkk
      · cases hh
  case lastore =>
    obtain ⟨q1, hn⟩ := jx_seq_spec hw
    have q1 : len = 1 := q1
    subst q1
    obtain ⟨q, k, a, t, rfl, hh⟩ := jx_vsL_some hh
    obtain ⟨en, he, hh⟩ := jx_bind_some hh
    obtain ⟨n, g, f1, f2, rfl⟩ := jx_sL_inv he
    obtain ⟨g1, g2⟩ := jx_hasCell hM.1 f1
    exact va_last hx hb hWd.1 hM.1.1 jx_ws_D (jx_S0 hM) a 1 (f := g) g2 rfl f2 hdec (jx_fin_set hM g1 (fun H1 locs1 hM1 => hK _ hh _ hn H1 locs1 cells slots ls' hM1 hl))
  case multianewarray ix dd =>
    obtain ⟨hw1, hw2⟩ := Bool.and_eq_true_iff.mp hw
    obtain ⟨q1, hn⟩ := jx_seq_spec hw1
    have q1 : len = 4 := q1
    subst q1
    obtain ⟨hd, hl1⟩ := Bool.and_eq_true_iff.mp hw2
    cases (of_decide_eq_true hd : dd = 2)
    obtain ⟨q0, hq0, hd0⟩ := List.any_eq_true.mp hl1
    obtain ⟨d1, d2⟩ := of_decide_eq_true hd0
    have hcl := jx_okw_in (List.all_eq_true.mp jx_dl_ok q0 hq0)
    rw [d1, d2] at hcl
    obtain ⟨n, k, t, rfl, hh⟩ := jx_2_some hh
    rcases jx_if_some hh with ⟨hq, hh⟩ | ⟨hq, hh⟩
    · cases hh
    · obtain ⟨n1, hq⟩ := not_or.mp hq
      obtain ⟨n2, hq⟩ := not_or.mp hq
      obtain ⟨k1, k2⟩ := not_or.mp hq
      obtain ⟨j, hj, rfl⟩ := nI_of2 (M := 5000) (n := 5000) (by decide) n1 (by simpa using n2)
      obtain ⟨j2, hj2, rfl⟩ := nI_of2 (M := 5000) (n := 5000) (by decide) k1 (by simpa using k2)
      rw [nI_clamp (by omega), nI_clamp (by omega)] at hh
      have hle := hKg _ hh
      have l1 : h.1 + 1 + j ≤ res.2.1 := hle.1
      have l2 : h.2.1 + j + j * j2 ≤ res.2.2.1 := hle.2
      obtain ⟨m1, m2, m3, m4, m5⟩ := id hM
      exact jx_mna hx hb hown (hts _ hcl) (hts _ (jx_arr_in 0 rfl)) hWd hM (by omega) (by omega) (by omega) (by omega) hdec (fun H1 hM1 => hK _ hh _ hn H1 locs (cells + 1 + j) (slots + j + j * j2) ls' hM1 hl)
  case invokevirtual ix =>
    obtain ⟨hw1, hw2⟩ := Bool.and_eq_true_iff.mp hw
    obtain ⟨q1, hn⟩ := jx_seq_spec hw1
    have q1 : len = 3 := q1
    subst q1
    obtain ⟨hw2, hw3⟩ := Bool.and_eq_true_iff.mp hw2
    have hh0 : jx_call (y + 1) z st (fun as => c0 x as h) (fun st' h' => K (i + 1, ls, st', h')) = some res := hh
    clear hh
    have hh := hh0
    clear hh0
    obtain ⟨as, rest, v', h', a1, rfl, a3, hcall, hh, -, -⟩ := jx_call_some hh
    have hle : jx_le h' res.2 := hKg _ hh
    have l1 := hle.1
    have l2 := hle.2
    exact jx_do_call (ix := ix) hx hb hml hown hts hWd hd hdl hMet hM hl.1 hcall (hcg _ _ _ _ _ hcall) ⟨by omega, by omega⟩ hw2 a3 hdec a1 (Or.inr (Or.inl ⟨rfl, fun q hq => by have h3 := jx_mth_spec hw3 hq; obtain ⟨m1, m2, m3⟩ := of_decide_eq_true h3; exact ⟨congrArg (· + 1) m2, m3, m1⟩⟩)) (fun H1 locs1 cells1 slots1 hM1 => hK _ hh _ hn H1 locs1 cells1 slots1 ls' hM1 hl)
  case invokespecial ix =>
    obtain ⟨hw1, hw2⟩ := Bool.and_eq_true_iff.mp hw
    obtain ⟨q1, hn⟩ := jx_seq_spec hw1
    have q1 : len = 3 := q1
    subst q1
    by_cases h9 : z = 9
    · subst h9
      obtain ⟨a, t, rfl, hh⟩ := jx_r_some hh
      rcases jx_if_some hh with ⟨hq, hh⟩ | ⟨hq, hh⟩
      · have hs := jx_short_sum (bs := bs) (rom := rom) hq
        obtain ⟨o1, o2⟩ := Bool.and_eq_true_iff.mp jx_obj_ok
        exact W.objInit (g := F0 m pc ls' (.ref (bs + a) :: t.map (jx_cv bs rom))) (rest := t.map (jx_cv bs rom)) hx hb hown (hts _ (jx_ol_spec hw2)) (hts _ (jx_okw_in o1)) (hts _ (jx_okw_in o2)) rfl (by rw [hml]; exact hl.1) rfl hdec (by omega) (by show 2 * 0 + _ + 12 ≤ R.locals; omega) (hK _ hh _ hn H locs cells slots ls' hM hl)
      · cases hh
    · have e9 : jx_step rc jx_dflt c0 K (pc, .invokespecial ix, 3, (x, y, z), v, w, ts, lv) i ls st h = jx_call (y + 1) 0 st (fun as => c0 x as h) fun st' h' => K (i + 1, ls, st', h') := by
        unfold jx_step
        dsimp only
        split
        · rename_i q; exact absurd q h9
        · rfl
      rw [e9] at hh
      have hw2 : (jx_hm own ix x && jx_mth x (fun q => decide ((jx_miy q).name = "<init>" ∧ y = jx_min q ∧ jx_mio q ≠ none))) = true := by
        rw [← hw2]
        show _ = if z = 9 then _ else _
        rw [if_neg h9]
      obtain ⟨hw2, hw3⟩ := Bool.and_eq_true_iff.mp hw2
      obtain ⟨as, rest, v', h', a1, rfl, a3, hcall, hh, -, -⟩ := jx_call_some hh
      have hle : jx_le h' res.2 := hKg _ hh
      have l1 := hle.1
      have l2 := hle.2
      exact jx_do_call (ix := ix) hx hb hml hown hts hWd hd hdl hMet hM hl.1 hcall (hcg _ _ _ _ _ hcall) ⟨by omega, by omega⟩ hw2 a3 hdec a1 (Or.inr (Or.inr ⟨rfl, fun q hq => by have h3 := jx_mth_spec hw3 hq; obtain ⟨m1, m2, m3⟩ := of_decide_eq_true h3; exact ⟨congrArg (· + 1) m2, m3, m1⟩⟩)) (fun H1 locs1 cells1 slots1 hM1 => hK _ hh _ hn H1 locs1 cells1 slots1 ls' hM1 hl)
  case invokestatic ix =>
    obtain ⟨hw1, hw2⟩ := Bool.and_eq_true_iff.mp hw
    obtain ⟨q1, hn⟩ := jx_seq_spec hw1
    have q1 : len = 3 := q1
    subst q1
    by_cases h9 : z = 9
    · subst h9
      obtain ⟨a, sp, b, dp, n, t, rfl, hh⟩ := jx_cps_some hh
      rcases jx_if_some hh with ⟨hq, hh⟩ | ⟨hq, hh⟩
      · obtain ⟨en, he, hh⟩ := jx_bind_some hh
        obtain ⟨hw3, hw4⟩ := Bool.and_eq_true_iff.mp hw2
        have hw4 : x = 0 ∨ x = 2 := of_decide_eq_true hw4
        have hs := jx_short_sum (bs := bs) (rom := rom) hq
        obtain ⟨n1, n2, f, g, f1, f2, b1, b2, b3, b4, b5, rfl⟩ := jx_cp_inv he
        obtain ⟨g1, g2⟩ := jx_hasCell hM.1 f1
        obtain ⟨g3, g4⟩ := jx_hasCell hM.1 f2
        obtain ⟨o1, o3⟩ := Bool.and_eq_true_iff.mp jx_sys_ok
        obtain ⟨o1, o2⟩ := Bool.and_eq_true_iff.mp o1
        have hkk := jx_fin_set (p := p) (l := l) (e := e) (R := R) (args := args) (below := below) (meth := meth) (c := c) (Q := Q) (m := m) (g := F0 m (pc + 3) ls' (t.map (jx_cv bs rom))) hM g3 (fun H1 locs1 hM1 => hK _ hh _ hn H1 locs1 cells slots ls' hM1 hl)
        have hlw : ((t.map (jx_cv bs rom)).map fun v => v.category).sum + (nativeFrameWords "java/lang/System" "arraycopy" 5 + 11) ≤ R.locals := by
          rw [show nativeFrameWords "java/lang/System" "arraycopy" 5 = 7 from by decide]
          omega
        rcases hw4 with rfl | rfl
        · exact va_copyi hx hb (hml.trans hl.1.symm) hown (hts _ (jx_al_spec hw3)) (hts _ (jx_okw_in o3)) (hts _ (jx_okw_in o1)) (hts _ (jx_okw_in o2)) hWd.1 hM.1.1 jx_ws_D (jx_S0 hM) a b 0 0 (f := f) (g := g) g2 g4 rfl rfl rfl b1 b2 b3 b4 b5 (fun _ _ => rfl) (by omega) hlw hdec hkk
        · rw [jx_cpcv] at hkk
          exact va_copyi hx hb (hml.trans hl.1.symm) hown (hts _ (jx_al_spec hw3)) (hts _ (jx_okw_in o3)) (hts _ (jx_okw_in o1)) (hts _ (jx_okw_in o2)) hWd.1 hM.1.1 jx_ws_D (jx_S0 hM) a b 2 2 (f := fun j => (f j).toInt8.toInt32) (g := fun j => (g j).toInt8.toInt32) g2 g4 rfl rfl rfl b1 b2 b3 b4 b5 (fun _ _ => pk_fb _) (by omega) hlw hdec hkk
      · cases hh
    · have e9 : jx_step rc jx_dflt c0 K (pc, .invokestatic ix, 3, (x, y, z), v, w, ts, lv) i ls st h = jx_call y z st (fun as => c0 x as h) fun st' h' => K (i + 1, ls, st', h') := by
        unfold jx_step
        dsimp only
        split
        · rename_i q; exact absurd q h9
        · rfl
      rw [e9] at hh
      have hw2 : (jx_hm own ix x && jx_mth x (fun q => decide (y = jx_min q ∧ jx_mio q = none))) = true := by
        rw [← hw2]
        show _ = if z = 9 then _ else _
        rw [if_neg h9]
      obtain ⟨hw2, hw3⟩ := Bool.and_eq_true_iff.mp hw2
      obtain ⟨as, rest, v', h', a1, rfl, a3, hcall, hh, -, -⟩ := jx_call_some hh
      have hle : jx_le h' res.2 := hKg _ hh
      have l1 := hle.1
      have l2 := hle.2
      exact jx_do_call (ix := ix) hx hb hml hown hts hWd hd hdl hMet hM hl.1 hcall (hcg _ _ _ _ _ hcall) ⟨by omega, by omega⟩ hw2 a3 hdec a1 (Or.inl ⟨rfl, fun q hq => by have h3 := jx_mth_spec hw3 hq; exact of_decide_eq_true h3⟩) (fun H1 locs1 cells1 slots1 hM1 => hK _ hh _ hn H1 locs1 cells1 slots1 ls' hM1 hl)
  case ireturn =>
    obtain ⟨hw1, hw2⟩ := Bool.and_eq_true_iff.mp hw
    have q1 : len = 1 := of_decide_eq_true hw1
    subst q1
    have hw2 : (decide (z = 0 ∧ rk = some .int) || decide (z ≠ 0 ∧ rk = some .boolean)) = true := hw2
    rw [Bool.or_eq_true, decide_eq_true_eq, decide_eq_true_eq] at hw2
    have hh : jx_ri z st h = some res := hh
    have key : ∃ a, st = [.int a] ∧ res = (some (.int a), h) ∧ (z = 0 ∨ jx_bool a = true) := by
      unfold jx_ri at hh
      split at hh
      · split at hh
        · cases hh; exact ⟨_, rfl, rfl, Or.inl rfl⟩
        · rcases jx_if_some hh with ⟨hq, hh⟩ | ⟨hq, hh⟩
          · cases hh; exact ⟨_, rfl, rfl, Or.inr hq⟩
          · cases hh
      · cases hh
    obtain ⟨a, rfl, rfl, hz⟩ := key
    refine hret pc H locs cells slots ls' (Or.inl ⟨a, rfl, hdec, ?_⟩) hM
    rcases hw2 with ⟨_, hq⟩ | ⟨hq2, hq⟩
    · exact Or.inl hq
    · exact Or.inr ⟨hq, hz.resolve_left hq2⟩
  case lreturn =>
    obtain ⟨q1, q2⟩ := of_decide_eq_true hw
    have q1 : len = 1 := q1
    subst q1
    have hh : jx_rl st h = some res := hh
    unfold jx_rl at hh
    split at hh
    · cases hh
      exact hret pc H locs cells slots ls' (Or.inr (Or.inl ⟨_, rfl, hdec, q2⟩)) hM
    · cases hh
  case areturn =>
    obtain ⟨hw1, hw2⟩ := Bool.and_eq_true_iff.mp hw
    have q1 : len = 1 := of_decide_eq_true hw1
    subst q1
    have hw2 : ∃ n, rk = some (.object n) := by
      unfold jx_isObj at hw2
      split at hw2
      · exact ⟨_, rfl⟩
      · cases hw2
    have hh : jx_ra st h = some res := hh
    unfold jx_ra at hh
    split at hh
    · cases hh
      exact hret pc H locs cells slots ls' (Or.inr (Or.inr (Or.inl ⟨some _, rfl, hdec, hw2⟩))) hM
    · cases hh
      exact hret pc H locs cells slots ls' (Or.inr (Or.inr (Or.inl ⟨none, rfl, hdec, hw2⟩))) hM
    · cases hh
  case return_ =>
    obtain ⟨q1, q2⟩ := of_decide_eq_true hw
    have q1 : len = 1 := q1
    subst q1
    have hh : jx_rv st h = some res := hh
    unfold jx_rv at hh
    split at hh
    · cases hh
      exact hret pc H locs cells slots ls' (Or.inr (Or.inr (Or.inr ⟨rfl, hdec, q2⟩))) hM
    · cases hh
  all_goals (cases (show false = true from hw))
end SIM2
