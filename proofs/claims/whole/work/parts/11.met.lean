/-! Contracts of all methods, out of the small machine's answers -/
section MET
variable {p : Program} {l : Launch} {e : Env} {R : Room} {s : State} {m : MethodId} {args : Array Value} {below : List Frame} {meth : Method} {c : Code} {Q : State → Prop}
variable {bs : Nat} {rom : Nat → Nat} {rc : Nat → Nat × (Nat → Int32)} {D : va_G} {tc : Nat → ClassId} {n0 sl0 : Nat}
variable {cc : ByteArray} {nL own : Nat} {ini : Bool} {rk : Option FieldType} {code : List jxRow} {c0 : Nat → List Value → jxH → jxR} {d : Nat} {res : Option Value × jxH}
theorem jx_On.norm {s' : jxS} (h : jx_On p l e R s m args below meth c Q bs rom D tc n0 sl0 nL code (jx_norm code s')) : jx_On p l e R s m args below meth c Q bs rom D tc n0 sl0 nL code s' := by
  intro pc' hpc H locs cells slots ls' hM hl
  unfold jx_norm at h
  split at h
  · exact h pc' hpc H locs cells slots ls' hM (jx_has_pick hl _)
  · exact h pc' hpc H locs cells slots ls' hM hl
theorem jx_simN (hg : jx_good cc own nL ini rk code = true) (hx : p.tables.exec = Jvm.exec) (hb : c.code = cc) (hml : c.maxLocals = nL) (hown : s.vm.findClass (jx_c own) = some m.cls) (hts : ∀ w ∈ jx_big, w.before args s = true) (hWd : jx_Wd bs rom rc D tc s) (hini : ini = true → meth.name = "<init>")
    (hd : d + 1 ≤ R.frames) (hdl : 60 * (d + 1) ≤ R.locals) (hMet : jx_Mets l bs rom rc D tc c0 d) (hcg : jx_grows c0) (hres : res.2.1 ≤ n0 + R.cells ∧ res.2.2.1 ≤ sl0 + R.slots)
    (hret : ∀ (pc : Nat) (H : Heap) (locs : List Loc) (cells slots : Nat) (ls' : Array Slot), jx_end cc rk pc res.1 → jx_M bs rom D tc s n0 sl0 res.2 H locs cells slots → W p l e R s m args below meth c H locs cells slots Q (F0 m pc ls' (res.1.toList.map (jx_cv bs rom)))) :
    ∀ (n : Nat) (s' : jxS), jx_loop rc jx_dflt c0 code n s' = some res → jx_On p l e R s m args below meth c Q bs rom D tc n0 sl0 nL code s'
  | 0, _, hh => by cases hh
  | n + 1, s', hh => by
    obtain ⟨i, ls, st, h⟩ := s'
    have hh : jx_one rc jx_dflt c0 code (fun s' => jx_loop rc jx_dflt c0 code n (jx_norm code s')) (i, ls, st, h) = some res := hh
    unfold jx_one at hh
    split at hh
    · rename_i r hr
      obtain ⟨hdec, hw⟩ := jx_good_spec hg hr
      exact jx_sim1 hx hb hml hown hts hWd hini hd hdl hMet hcg hres hret (fun s' => jx_loop rc jx_dflt c0 code n (jx_norm code s')) (fun s' hs' => (jx_simN hg hx hb hml hown hts hWd hini hd hdl hMet hcg hres hret n _ hs').norm)
        (fun s' hs' => by have := jx_loop_grow hcg n _ _ hs'; rw [jx_norm_h] at this; exact this) i ls st h r hr hdec hw hh
    · cases hh
theorem jx_wl_sl (vs : List Value) : (lg_sl vs).length = jx_wl vs := by
  induction vs with
  | nil => rfl
  | cons v t ih =>
    have e : lg_sl (v :: t) = (if v.category = 2 then [Slot.val v, .second] else [.val v]) ++ lg_sl t := rfl
    rw [e, List.length_append, ih]
    show _ = v.category + jx_wl t
    rcases lv_cat v with h | h <;> simp [h]
theorem jx_wl_cv (vs : List Value) : jx_wl (vs.map (jx_cv bs rom)) = jx_wl vs := by
  induction vs with
  | nil => rfl
  | cons v t ih =>
    show (jx_cv bs rom v).category + jx_wl (t.map (jx_cv bs rom)) = v.category + jx_wl t
    rw [ih, jx_cv_cat]
theorem jx_args_cv (vs : List Value) : ∀ i, lv_args i (vs.map (jx_cv bs rom)) = jx_cvL bs rom (lv_args i vs) := by
  induction vs with
  | nil => intro i; rfl
  | cons v t ih =>
    intro i
    show (i, jx_cv bs rom v) :: lv_args _ _ = (i, jx_cv bs rom v) :: jx_cvL bs rom (lv_args _ _)
    rw [ih, jx_cv_cat]
theorem jx_Met_of {y : MethodName} {ws ws' : List Cond} {rm : Room} {Pc : Array Value → State → Prop} {Qc : Array Value → State → Outcome → State → Prop} {mc ms : Nat} {free : Addr → Prop} {cc : ByteArray} {maxL : Nat} {ret : Option FieldType}
    (hy : plainFor y = true) (hw : ws = Cond.code y cc maxL ret :: ws')
    (body : ∀ p e s m args below meth c s₁, BodyLoose p l y (headSpec ws rm) cc maxL ret e s m args below meth c s₁ → c.maxLocals = maxL → Pc args s →
      W p l e (headSpec ws rm).room s m args below meth c s.heap [] 0 0 (MQ below Qc args s mc ms free) (entryFrame m args maxL)) : Met l y ws rm Pc Qc mc ms free := by
  refine MetFree.of_bodySF (code := cc) (maxLocals := maxL) (ret := ret) hy (fun args s m h hn => ?_) (fun p e s m args below meth c s₁ B hml hP _ => ?_)
  · obtain ⟨meth, c, h1, h2, h3, h4, h5, h6, -, -⟩ := Cond.code_spec hn (atoms_spec (ws := ws) h _ (by rw [hw]; exact List.mem_cons_self))
    exact ⟨meth, c, h1, h2, h3, h4, h5, h6⟩
  · obtain ⟨t, a1, o, b1, b2, b3⟩ := body p e s m args below meth c s₁ B hml hP s₁ (by rw [B.state]; rfl) (Stand.of_body B)
    exact ⟨t, o, a1, b1, b2, b3.1, b3.2⟩
def jx_ini (q : jxMi) : Bool := decide ((jx_miy q).name = "<init>")
/-- the table of methods is that of the names -/
def jx_mtok (mt : Nat → Option (Option Nat × Nat × List jxRow)) : Prop := ∀ k oc nL code, mt k = some (oc, nL, code) → ∃ q, jx_mi[k]? = some q ∧ jx_mio q = oc ∧ jx_mil q = nL ∧ jx_good (jx_mib q) (jx_miw q) nL (jx_ini q) (jx_mir q) code = true
theorem jx_all_met {mt : Nat → Option (Option Nat × Nat × List jxRow)} (hmt : jx_mtok mt) : ∀ d, jx_Mets l bs rom rc D tc (jx_X rc jx_dflt mt d) d
  | 0 => fun _ _ _ _ _ h => by cases h
  | d + 1 => by
    have ih := jx_all_met hmt d
    have hcg := jx_X_grows rc jx_dflt mt d
    intro k as h v h' hh
    obtain ⟨oc, nL, code, e1, e2, e3, hh⟩ := jx_X_inv hh
    obtain ⟨q, hq, q1, q2, hg⟩ := hmt k oc nL code e1
    have hqi : q ∈ jx_mi := List.mem_of_getElem? hq
    obtain ⟨-, -, -, hpl, -, hcw⟩ := jx_mi_spec hqi
    refine ⟨q, hq, fun ci hci => e3 ci (by rw [← q1]; exact hci), ?_⟩
    obtain ⟨n, hn⟩ := (jx_G_iff hcg _ _).mp hh
    have hle : jx_le h h' := by
      have := jx_loop_grow hcg n _ _ hn
      rw [jx_norm_h] at this
      exact this
    have l1 := hle.1
    have l2 := hle.2
    refine jx_Met_of (cc := jx_mib q) (maxL := jx_mil q) (ret := jx_mir q) (ws' := jx_big) hpl rfl ?_
    intro p e s m args below meth c s₁ B hml hv
    obtain ⟨rfl, hsz, hR, hWd⟩ := hv
    have hx := B.exec
    have hb := B.bytes
    have hr := B.returns
    have hts0 := atoms_spec (ws := jx_wsm q) B.pre
    have hts : ∀ w ∈ jx_big, w.before (as.map (jx_cv bs rom)).toArray s = true := fun w hw => hts0 w (List.mem_cons_of_mem _ hw)
    have hown : s.vm.findClass (jx_c (jx_miw q)) = some m.cls := by rw [hcw]; exact findClass_of_methodNamed B.named
    have hlocks := B.notSynchronized
    have hini : jx_ini q = true → meth.name = "<init>" := fun hi => (name_of_methodNamed B.named B.method).1.trans (of_decide_eq_true hi)
    have hl := lv_entry (as.map (jx_cv bs rom)) (n := jx_mil q) (by rw [jx_wl_sl, jx_wl_cv, q2]; exact e2)
    rw [lg_entry_eq]
    generalize (lg_sl (as.map (jx_cv bs rom)) ++ List.replicate (jx_mil q - (lg_sl (as.map (jx_cv bs rom))).length) Slot.unset).toArray = ls at hl ⊢
    have hl : lv_has ls (jx_mil q) (jx_cvL bs rom (lv_args 0 as)) := by rw [← jx_args_cv]; exact hl
    subst q2
    have hM : jx_M bs rom D tc s h.1 h.2.1 h s.heap [] 0 0 := ⟨hR, va_S.rf, rfl, rfl, hsz⟩
    have key := jx_simN (res := (v, h')) (Q := MQ below (jx_Qc bs rom D tc v h') (as.map (jx_cv bs rom)).toArray s (h'.1 - h.1) (h'.2.1 - h.2.1) (jx_A bs)) (R := jx_rm (d + 1) (h'.1 - h.1) (h'.2.1 - h.2.1)) (e := e) (below := below) (n0 := h.1) (sl0 := h.2.1) hg hx hb hml hown hts hWd hini (Nat.le_refl _) (Nat.le_refl _) ih hcg
      (show h'.1 ≤ h.1 + (h'.1 - h.1) ∧ h'.2.1 ≤ h.2.1 + (h'.2.1 - h.2.1) from ⟨by omega, by omega⟩) ?_ n _ hn
    · exact key.norm 0 (jx_good_0 hg) s.heap [] 0 0 ls hM hl
    · intro pc H locs cells slots ls' hend hM'
      obtain ⟨m1, m2, m3, m4, m5⟩ := hM'
      have c1 : cells = h'.1 - h.1 := by have m3 : h'.1 = h.1 + cells := m3; omega
      have c2 : slots = h'.2.1 - h.2.1 := by have m4 : h'.2.1 = h.2.1 + slots := m4; omega
      subst c1; subst c2
      rcases hend with ⟨x, hv, hdg, hk⟩ | ⟨x, hv, hdg, hk⟩ | ⟨x, hv, hdg, hk⟩ | ⟨hv, hdg, hk⟩
      · have hv : v = some (.int x) := hv
        subst hv
        rcases hk with hk | ⟨hk, hx2⟩
        · exact W.iret (v := x) hx hb (hr.trans hk) (fun t ht hW => ⟨rfl, by rw [ht]; exact m1, m2.F ht⟩) m2.2.2 hdg hlocks
        · refine W.zret (v := x) hx hb (hr.trans hk) ?_ (fun t ht hW => ⟨rfl, by rw [ht]; exact m1, m2.F ht⟩) m2.2.2 hdg hlocks
          unfold jx_bool at hx2
          rw [Bool.or_eq_true, beq_iff_eq, beq_iff_eq] at hx2
          rcases hx2 with rfl | rfl <;> decide
      · have hv : v = some (.long x) := hv
        subst hv
        exact W.lret (v := x) hx hb (hr.trans hk) (fun t ht hW => ⟨rfl, by rw [ht]; exact m1, m2.F ht⟩) m2.2.2 hdg hlocks
      · have hv : v = some (va_rf x) := hv
        subst hv
        obtain ⟨nm, hk⟩ := hk
        exact W.aret (v := jx_cv bs rom (va_rf x)) hx hb (hr.trans hk) (Or.inl ⟨nm, rfl⟩) (by cases x <;> first | exact Or.inl rfl | exact Or.inr ⟨_, rfl⟩) (fun t ht hW => ⟨rfl, by rw [ht]; exact m1, m2.F ht⟩) m2.2.2 hdg hlocks
      · have hv : v = none := hv
        subst hv
        exact W.vret hx hb (hr.trans hk) (fun t ht hW => ⟨rfl, by rw [ht]; exact m1, m2.F ht⟩) m2.2.2 hdg hlocks
end MET
