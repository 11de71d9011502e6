/-! What the small machine computes, the machine does -/
def jx_M (bs : Nat) (rom : Nat → Nat) (D : va_G) (tc : Nat → ClassId) (s : State) (n0 sl0 : Nat) (h : jxH) (H : Heap) (locs : List Loc) (cells slots : Nat) : Prop :=
  jx_Rel bs rom D tc h H ∧ va_S (jx_A bs) s.heap H locs ∧ h.1 = n0 + cells ∧ h.2.1 = sl0 + slots ∧ s.heap.size = bs + n0
def jx_Pc (bs : Nat) (rom : Nat → Nat) (rc : Nat → Nat × (Nat → Int32)) (D : va_G) (tc : Nat → ClassId) (as : List Value) (h : jxH) : Array Value → State → Prop :=
  va_Pc (as.map (jx_cv bs rom)) (fun U => U.heap.size = bs + h.1 ∧ jx_Rel bs rom D tc h U.heap ∧ jx_Wd bs rom rc D tc U)
def jx_Qc (bs : Nat) (rom : Nat → Nat) (D : va_G) (tc : Nat → ClassId) (v : Option Value) (h' : jxH) : Array Value → State → Outcome → State → Prop :=
  fun _ st o t => o = .returned (v.map (jx_cv bs rom)) ∧ jx_Rel bs rom D tc h' t.heap ∧ va_F (jx_A bs) st t
def jx_rm (d mc ms : Nat) : Room := { frames := d, cells := mc, slots := ms, locals := 60 * d }
def jx_Mets (l : Launch) (bs : Nat) (rom : Nat → Nat) (rc : Nat → Nat × (Nat → Int32)) (D : va_G) (tc : Nat → ClassId) (c0 : Nat → List Value → jxH → jxR) (d : Nat) : Prop :=
  ∀ k as h v h', c0 k as h = some (v, h') → ∃ q, jx_mi[k]? = some q ∧ (∀ ci, jx_mio q = some ci → ∃ b t, as = .ref b :: t ∧ jx_is (jx_at h b) ci = true) ∧
    Met l (jx_miy q) (jx_wsm q) (jx_rm d (h'.1 - h.1) (h'.2.1 - h.2.1)) (jx_Pc bs rom rc D tc as h) (jx_Qc bs rom D tc v h') (h'.1 - h.1) (h'.2.1 - h.2.1) (jx_A bs)
section SIM
variable {p : Program} {l : Launch} {e : Env} {R : Room} {s : State} {m : MethodId} {args : Array Value} {below : List Frame} {meth : Method} {c : Code} {Q : State → Prop}
variable {bs : Nat} {rom : Nat → Nat} {rc : Nat → Nat × (Nat → Int32)} {D : va_G} {tc : Nat → ClassId} {n0 sl0 : Nat} {h : jxH} {H : Heap} {locs : List Loc} {cells slots : Nat}
theorem jx_Wsize {g : JFrame} (hz : H.size ≤ s.heap.size + cells → W p l e R s m args below meth c H locs cells slots Q g) : W p l e R s m args below meth c H locs cells slots Q g :=
  fun T hT X => hz (by rw [← hT]; exact X.heapSize) T hT X
theorem jx_S0 (hM : jx_M bs rom D tc s n0 sl0 h H locs cells slots) : va_S (jx_A bs) H H locs := ⟨Nat.le_refl _, fun _ _ _ => rfl, hM.2.1.2.2⟩
theorem jx_A0 (hM : jx_M bs rom D tc s n0 sl0 h H locs cells slots) : ∀ q, H.size ≤ q → jx_A bs q := fun q hq => by
  have := hM.1.2.1
  show bs ≤ q
  omega
theorem jx_fin_set {a : Nat} {en : jxE} {g : JFrame} (hM : jx_M bs rom D tc s n0 sl0 h H locs cells slots) (ha : a < h.1)
    (kk : ∀ (H1 : Heap) (locs1 : List Loc), jx_M bs rom D tc s n0 sl0 (jx_set h a en) H1 locs1 cells slots → W p l e R s m args below meth c H1 locs1 cells slots Q g) :
    ∀ (H1 : Heap) (locs1 : List Loc), va_P D vwCl ((jx_ws bs rom tc h).set a (bs + a, jx_cvE bs rom tc en)) H1 → va_D (jx_A bs) ((jx_ws bs rom tc h).set a (bs + a, jx_cvE bs rom tc en)) → va_S (jx_A bs) H H1 locs1 → W p l e R s m args below meth c H1 locs1 cells slots Q g := by
  intro H1 locs1 hP hD hS1
  refine jx_Wsize fun hz => ?_
  obtain ⟨hR, hS, h1, h2, h3⟩ := hM
  have e1 : H1.size = H.size := by
    have := hS1.1
    have := hR.2.1
    omega
  exact kk H1 locs1 ⟨hR.set ha e1 hP, ⟨by rw [e1]; exact hS.1, fun q q1 q2 => (hS1.2.1 q (Nat.lt_of_lt_of_le q1 hS.1) q2).trans (hS.2.1 q q1 q2), hS1.2.2⟩, h1, h2, h3⟩
theorem jx_fin_new {n : Nat} {en : jxE} {g : Nat → JFrame} (hM : jx_M bs rom D tc s n0 sl0 h H locs cells slots)
    (kk : ∀ H1 : Heap, jx_M bs rom D tc s n0 sl0 (jx_new h n en) H1 locs (cells + 1) (slots + n) → W p l e R s m args below meth c H1 locs (cells + 1) (slots + n) Q (g (bs + h.1))) :
    ∀ (q : Nat) (H1 : Heap), va_P D vwCl (jx_ws bs rom tc h ++ [(q, jx_cvE bs rom tc en)]) H1 → va_D (jx_A bs) (jx_ws bs rom tc h ++ [(q, jx_cvE bs rom tc en)]) → va_S (jx_A bs) H H1 locs → W p l e R s m args below meth c H1 locs (cells + 1) (slots + n) Q (g q) := by
  intro q H1 hP hD hS1
  refine jx_Wsize fun hz => ?_
  obtain ⟨hR, hS, h1, h2, h3⟩ := hM
  have hs := hR.2.1
  have hl : (jx_ws bs rom tc h ++ [(q, jx_cvE bs rom tc en)])[h.1]? = some (q, jx_cvE bs rom tc en) := by
    rw [List.getElem?_append_right (by rw [jx_ws_len]; exact Nat.le_refl _), jx_ws_len]
    simp
  have hlt : q < H1.size := (hP _ _ hl).lt
  have hge : bs ≤ q := hD.2 _ _ hl
  have hne : ∀ i, i < h.1 → q ≠ bs + i := by
    intro i hi hq
    have hg : (jx_ws bs rom tc h ++ [(q, jx_cvE bs rom tc en)])[i]? = some (bs + i, jx_cvE bs rom tc (h.2.2 i)) := by
      rw [List.getElem?_append_left (by rw [jx_ws_len]; exact hi)]
      exact jx_ws_get hi
    have := hD.1 i h.1 _ _ hg hl hq.symm
    omega
  have hq : q = bs + h.1 := by
    rcases Nat.lt_or_ge q (bs + h.1) with z | z
    · exact absurd (by omega : q = bs + (q - bs)) (hne (q - bs) (by omega))
    · omega
  subst hq
  have e1 : H1.size = H.size + 1 := by omega
  exact kk H1 ⟨hR.new e1 hP, ⟨by have := hS.1; omega, fun q q1 q2 => (hS1.2.1 q (Nat.lt_of_lt_of_le q1 hS.1) q2).trans (hS.2.1 q q1 q2), hS1.2.2⟩, by show h.1 + 1 = _; omega, by show h.2.1 + n = _; omega, h3⟩
theorem jx_blind {as : List Value} : FrameBlind (jx_Pc bs rom rc D tc as h) := fun _ _ _ _ hq => ⟨hq.1, hq.2.1, hq.2.2.1, hq.2.2.2.calling⟩
theorem jx_pre (hM : jx_M bs rom D tc s n0 sl0 h H locs cells slots) (hWd : jx_Wd bs rom rc D tc s) (as : List Value) : ∀ U : State, U.heap = H → s.WarmedH U.vm → jx_Pc bs rom rc D tc as h (as.map (jx_cv bs rom)).toArray U := by
  intro U hU hW
  obtain ⟨hR, hS, h1, h2, h3⟩ := hM
  exact ⟨rfl, by rw [hU]; exact hR.2.1, by rw [hU]; exact hR, hWd.warm hW (by rw [hU]; exact hS.1) (fun q q1 q2 => by rw [hU]; exact hS.2.1 q q1 q2)⟩
theorem jx_cont {v : Option Value} {h' : jxH} {pc : Nat} {ls : Array Slot} {st0 rest : List Value} {a : Array Value} (hM : jx_M bs rom D tc s n0 sl0 h H locs cells slots) (hle : jx_le h h')
    (hr : va_Run p l e R s m args below meth c H locs cells slots (h'.1 - h.1) (h'.2.1 - h.2.1) (F0 m pc ls st0) (rest.map (jx_cv bs rom)) (jx_Qc bs rom D tc v h' a) (jx_A bs))
    (kk : ∀ (H1 : Heap) (locs1 : List Loc) (cells1 slots1 : Nat), jx_M bs rom D tc s n0 sl0 h' H1 locs1 cells1 slots1 → W p l e R s m args below meth c H1 locs1 cells1 slots1 Q (F0 m (pc + 3) ls ((v.toList ++ rest).map (jx_cv bs rom)))) :
    W p l e R s m args below meth c H locs cells slots Q (F0 m pc ls st0) := by
  intro T hT X
  obtain ⟨v', st₀, t, T', L, g0, X', hL, e1, e2, ⟨hv, hRt, hz, hk⟩, st⟩ := hr T hT X
  obtain ⟨hR, hS, h1, h2, h3⟩ := hM
  cases hv
  rw [g0] at hz hk
  have hst : (v.map (jx_cv bs rom)).toList ++ rest.map (jx_cv bs rom) = (v.toList ++ rest).map (jx_cv bs rom) := by cases v <;> rfl
  rw [hst] at st
  have b1 := hle.1
  have b2 := hle.2
  obtain ⟨t2, a1, b3⟩ := kk T'.heap (locs ++ L) (cells + (h'.1 - h.1)) (slots + (h'.2.1 - h.2.1)) ⟨by rw [e1]; exact hRt, ⟨by rw [e1]; exact Nat.le_trans hS.1 hz, fun q q1 q2 => by rw [e1, hk q (Nat.lt_of_lt_of_le q1 hS.1) q2]; exact hS.2.1 q q1 q2, fun q hq => by
      rcases List.mem_append.mp hq with z | z
      · exact hS.2.2 q z
      · exact hL q z⟩, by omega, by omega, h3⟩ T' rfl X'
  exact ⟨t2, st t2 a1, b3⟩
theorem jx_short_sum {rest : List Value} (hs : jx_short rest = true) : ((rest.map (jx_cv bs rom)).map fun v => v.category).sum ≤ 8 := by
  have hc : ∀ v : Value, (jx_cv bs rom v).category ≤ 2 := fun v => by rw [jx_cv_cat]; rcases lv_cat v with z | z <;> omega
  rcases rest with _ | ⟨a, _ | ⟨b, _ | ⟨d, _ | ⟨f, _ | ⟨g, t⟩⟩⟩⟩⟩
  · simp
  · have := hc a; simp; omega
  · have := hc a; have := hc b; simp; omega
  · have := hc a; have := hc b; have := hc d; simp; omega
  · have := hc a; have := hc b; have := hc d; have := hc f; simp; omega
  · cases hs
variable {cc : ByteArray} {nL own : Nat} {c0 : Nat → List Value → jxH → jxR} {d : Nat}
/-- a call of one of our methods -/
theorem jx_do_call (hx : p.tables.exec = Jvm.exec) (hb : c.code = cc) (hml : c.maxLocals = nL) (hown : s.vm.findClass (jx_c own) = some m.cls) (hts : ∀ w ∈ jx_big, w.before args s = true) (hWd : jx_Wd bs rom rc D tc s)
    (hd : d + 1 ≤ R.frames) (hdl : 60 * (d + 1) ≤ R.locals) (hMet : jx_Mets l bs rom rc D tc c0 d) (hM : jx_M bs rom D tc s n0 sl0 h H locs cells slots)
    {k ix y pc : Nat} {as rest : List Value} {v : Option Value} {h' : jxH} {ls : Array Slot} {ins : Instr} (hls : ls.size = nL) (hcall : c0 k as h = some (v, h')) (hle : jx_le h h') (hroom : h'.1 ≤ n0 + R.cells ∧ h'.2.1 ≤ sl0 + R.slots) (hlink : jx_hm own ix k = true)
    (hsh : jx_short rest = true) (hdg : decode cc pc = .ok (ins, 3)) (has : as.length = y)
    (hmode : (ins = .invokestatic ix ∧ ∀ q, jx_mi[k]? = some q → y = jx_min q ∧ jx_mio q = none) ∨ (ins = .invokevirtual ix ∧ ∀ q, jx_mi[k]? = some q → y = jx_min q + 1 ∧ jx_mio q ≠ none ∧ (jx_miy q).name ≠ "<init>") ∨ (ins = .invokespecial ix ∧ ∀ q, jx_mi[k]? = some q → y = jx_min q + 1 ∧ jx_mio q ≠ none ∧ (jx_miy q).name = "<init>"))
    (kk : ∀ (H1 : Heap) (locs1 : List Loc) (cells1 slots1 : Nat), jx_M bs rom D tc s n0 sl0 h' H1 locs1 cells1 slots1 → W p l e R s m args below meth c H1 locs1 cells1 slots1 Q (F0 m (pc + 3) ls ((v.toList ++ rest).map (jx_cv bs rom)))) :
    W p l e R s m args below meth c H locs cells slots Q (F0 m pc ls ((as.reverse ++ rest).map (jx_cv bs rom))) := by
  obtain ⟨q, hq, hobj, hMt⟩ := hMet k as h v h' hcall
  have hqi : q ∈ jx_mi := List.mem_of_getElem? hq
  obtain ⟨hini, ⟨hst, hin⟩, hdd, hpl, h41, hcw⟩ := jx_mi_spec hqi
  obtain ⟨hR, hS, e1, e2, e3⟩ := id hM
  have b1 := hle.1
  have b2 := hle.2
  have hf : cells + (h'.1 - h.1) ≤ R.cells ∧ slots + (h'.2.1 - h.2.1) ≤ R.slots := by omega
  have hRm : (jx_rm d (h'.1 - h.1) (h'.2.1 - h.2.1)).frames + 1 ≤ R.frames ∧ 8 + (jx_mil q + 11) + (jx_rm d (h'.1 - h.1) (h'.2.1 - h.2.1)).locals ≤ R.locals := by
    refine ⟨hd, ?_⟩
    show 8 + (jx_mil q + 11) + 60 * d ≤ R.locals
    omega
  have hfix : CallFix p m c cc nL s args jx_big (jx_c own) := ⟨hx, hb, hml, hown, hts⟩
  refine jx_cont (a := (as.map (jx_cv bs rom)).toArray) hM hle ?_ kk
  rcases hmode with ⟨rfl, hm⟩ | ⟨rfl, hm⟩ | ⟨rfl, hm⟩
  · obtain ⟨m1, m2⟩ := hm q hq
    have hlen : (as.map (jx_cv bs rom)).length = jx_min q := by rw [List.length_map, has, m1]
    rcases jx_hm_spec hlink hq with hl | hl
    · exact va_runS (As := as.map (jx_cv bs rom)) hfix hMt ⟨callB_of (jx_min q) hts (jx_wsm_good hqi) rfl rfl rfl (hts _ hini) (hts _ hl) hdd hRm, hts _ (hst m2)⟩ ⟨jx_blind, jx_pre hM hWd as⟩ rfl hlen hls (by simp) (lv_room (jx_short_sum hsh)) hdg hf
    · exact va_runSN (As := as.map (jx_cv bs rom)) hfix hMt ⟨va_cnB (jx_min q) hts (jx_wsm_good hqi) rfl rfl rfl (hWd.2.1 _ hl) (hts _ hini) hdd hRm, hts _ (hst m2), trivial⟩ ⟨jx_blind, jx_pre hM hWd as⟩ rfl hlen hls (by simp) (lv_room (jx_short_sum hsh)) hdg hf
  · obtain ⟨m1, m2, m3⟩ := hm q hq
    obtain ⟨ci, hci⟩ : ∃ ci, jx_mio q = some ci := by
      cases z : jx_mio q with
      | none => exact absurd z m2
      | some ci => exact ⟨ci, rfl⟩
    obtain ⟨b, as', rfl, hbi⟩ := hobj ci hci
    obtain ⟨g1, ⟨r, hr1, hr2⟩, g3⟩ := hin ci hci
    have g3 := g3.resolve_left (fun z => m3 z.1)
    have hlen : (as'.map (jx_cv bs rom)).length = jx_min q := by
      rw [List.length_map]
      simp only [List.length_cons] at has
      omega
    have hrecv : ∃ cellB : Cell, H[bs + b]? = some cellB ∧ cellB.vm.isStatics = false ∧ s.vm.findClass (jx_miy q).cls = some cellB.cls := by
      unfold jx_is at hbi
      split at hbi
      · rename_i c' fs hat
        have hc' : c' = ci := by simpa using hbi
        subst hc'
        have := va_recv hWd.1 hR.1 (ci := c') (q0 := b) hr1 (hR.at hat (by simp))
        rw [hr2] at this
        exact this
      · cases hbi
    have hstk : (((Value.ref b :: as').reverse ++ rest).map (jx_cv bs rom)) = (as'.map (jx_cv bs rom)).reverse ++ Value.ref (bs + b) :: rest.map (jx_cv bs rom) := by
      simp [jx_cv]
    rcases jx_hm_spec hlink hq with hl | hl
    · exact va_runV (As := as'.map (jx_cv bs rom)) (C := (jx_miy q).cls) (b := bs + b) hfix hMt ⟨callB_of (jx_min q) hts (jx_wsm_good hqi) rfl rfl rfl (hts _ hini) (hts _ hl) hdd hRm, hts _ g1, hts _ g3.1⟩ ⟨jx_blind, hrecv, jx_pre hM hWd (.ref b :: as')⟩ rfl hlen hls hstk (lv_room (jx_short_sum hsh)) hdg hf
    · exact va_runVN (As := as'.map (jx_cv bs rom)) (C := (jx_miy q).cls) (b := bs + b) hfix hMt ⟨va_cnB (jx_min q) hts (jx_wsm_good hqi) rfl rfl rfl (hWd.2.1 _ hl) (hts _ hini) hdd hRm, hts _ g1, hts _ g3.1⟩ ⟨jx_blind, hrecv, jx_pre hM hWd (.ref b :: as')⟩ rfl hlen hls hstk (lv_room (jx_short_sum hsh)) hdg hf
  · obtain ⟨m1, m2, m3⟩ := hm q hq
    obtain ⟨ci, hci⟩ : ∃ ci, jx_mio q = some ci := by
      cases z : jx_mio q with
      | none => exact absurd z m2
      | some ci => exact ⟨ci, rfl⟩
    obtain ⟨b, as', rfl, hbi⟩ := hobj ci hci
    obtain ⟨g1, -, g3⟩ := hin ci hci
    have hret : jx_mir q = none := by
      rcases g3 with z | z
      · exact z.2
      · exact absurd m3 z.2
    have hlen : (as'.map (jx_cv bs rom)).length = jx_min q := by
      rw [List.length_map]
      simp only [List.length_cons] at has
      omega
    have hstk : (((Value.ref b :: as').reverse ++ rest).map (jx_cv bs rom)) = (as'.map (jx_cv bs rom)).reverse ++ Value.ref (bs + b) :: rest.map (jx_cv bs rom) := by
      simp [jx_cv]
    have hG := jx_wsm_good hqi
    have hw : jx_wsm q = Cond.code (jx_miy q) (jx_mib q) (jx_mil q) none :: jx_big := by
      unfold jx_wsm
      rw [hret]
    rcases jx_hm_spec hlink hq with hl | hl
    · exact va_runI (As := as'.map (jx_cv bs rom)) (b := bs + b) hfix hMt ⟨callB_of (jx_min q) hts hG hw rfl rfl (hts _ hini) (hts _ hl) hdd hRm, m3, hts _ g1⟩ ⟨jx_blind, jx_pre hM hWd (.ref b :: as')⟩ rfl hlen hls hstk (lv_room (jx_short_sum hsh)) hdg hf
    · exact va_runIN (As := as'.map (jx_cv bs rom)) (b := bs + b) hfix hMt ⟨va_cnB (jx_min q) hts hG hw rfl rfl (hWd.2.1 _ hl) (hts _ hini) hdd hRm, m3, hts _ g1⟩ ⟨jx_blind, jx_pre hM hWd (.ref b :: as')⟩ rfl hlen hls hstk (lv_room (jx_short_sum hsh)) hdg hf
end SIM
