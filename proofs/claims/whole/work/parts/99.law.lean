-- written by wip/whole/gen_law.py
def jx_rom (k : Nat) (j : Nat) : Int32 := match k with
  | 1 => [1, 7, 5, 4, 1, 1, 0, 13].getD j 0
  | 2 => [0, 1, 1, 1, 0, 0, 0, 2].getD j 0
  | _ => [-1, 0, 0, 1, 2, 0].getD j 0
/-- the arrays that stand before the law begins: the script and the program's three tables -/
def jx_rc (L : Nat) (xs : Nat → Int32) (k : Nat) : Nat × (Nat → Int32) := match k with
  | 1 => (8, jx_rom 1)
  | 2 => (8, jx_rom 2)
  | 3 => (6, jx_rom 3)
  | _ => (L, xs)
/-- THE LAW, AS A PURE FUNCTION: for every script the small machine answers 1, in its room -/
theorem jx_pure {L : Nat} (hL : L ≤ 3072) (xs : Nat → Int32) : ∃ h' : jxH, jb_333 (jx_rc L xs) 1000 0 [(0, .retAddr 0)] [] (0, 0, fun _ => .inr (.inr ())) = some (some (.int 1), h') ∧ h'.1 ≤ 600000 ∧ h'.2.1 ≤ 7302250 := by
  have hr : jk_rom (jx_rc L xs) := ⟨rfl, rfl, rfl, funext fun k => rfl, funext fun k => rfl, funext fun k => rfl⟩
  exact law_all hr hL
section START
variable {U : State} {args : Array Value}
theorem jx_arr_kn {ty : FieldType} (h : (Cond.arrayClass ty).before args U = true) : ∃ cA, ArrOfT U cA ty ∧ U.vm.findClass ("[" ++ ty.toString) = some cA := by
  obtain ⟨c, k, comp, h1, h2, h3⟩ := Cond.arrayClass_spec h
  exact ⟨c, fun n z => ⟨fun k h => (by cases h), k, h2, comp, h3⟩, h1⟩
theorem jx_arr_ov {C : String} (h : (Cond.arrayOver (.object C)).before args U = true) : ∃ cA, ArrOfT U cA (.object C) ∧ va_RA U cA (.object C) := by
  obtain ⟨comp, c, k, h1, h2, h3, h4, h5⟩ := Cond.arrayOver_spec h
  exact ⟨c, fun n z => ⟨fun k h => (by cases h), k, h3, comp, h4⟩, k, comp, h3, h4, h1, h5⟩
theorem jx_arr_oa {t : FieldType} (h : (Cond.arrayOver (.array t)).before args U = true) : ∃ cA, ArrOfT U cA (.array t) ∧ U.vm.findClass ("[" ++ (FieldType.array t).toString) = some cA := by
  obtain ⟨comp, c, k, h1, h2, h3, h4, h5⟩ := arrayOverA_spec h
  exact ⟨c, fun n z => ⟨fun k h => (by cases h), k, h3, comp, h4⟩, h5⟩
set_option maxRecDepth 100000 in
theorem jx_inst_all : (List.range vwCl.length).all (fun ci => jx_cl.any (fun q => decide (q.2.2.1 = ci))) = true := by decide +kernel
theorem jx_inst_in {ci : Nat} {r : vw_C} (h : vwCl[ci]? = some r) : Cond.instantiable r.1 r.2.2 ∈ jx_big := by
  have h1 := List.all_eq_true.mp jx_inst_all ci (List.mem_range.mpr (List.getElem?_eq_some_iff.mp h).1)
  obtain ⟨q, hq, hd⟩ := List.any_eq_true.mp h1
  have hd := of_decide_eq_true hd
  have h2 := List.all_eq_true.mp jx_cl_ok q hq
  rw [hd, h] at h2
  rw [Bool.and_eq_true, Bool.and_eq_true] at h2
  exact jx_okw_in h2.1.2
theorem jx_classes (hts : ∀ w ∈ lw_tbl, w.before args U = true) : ∃ D : va_G, ∀ (c : Nat) (q : vw_C), vwCl[c]? = some q → u_Kn U q.1 q.2.1 q.2.2 (D.1 c) (D.2 c) := by
  have h : ∀ c : Nat, ∃ r : ClassId × (Nat → Nat), ∀ q : vw_C, vwCl[c]? = some q → u_Kn U q.1 q.2.1 q.2.2 r.1 r.2 := fun c => by
    by_cases hc : ∃ r, vwCl[c]? = some r
    · obtain ⟨r, hc⟩ := hc
      obtain ⟨cC, iS, hk⟩ := u_known (ws := jx_big) (fun w hw => hts w (List.mem_filter.mp hw).1) (jx_lay_in hc) (hts _ (List.mem_filter.mp (jx_inst_in hc)).1)
      exact ⟨(cC, iS), fun q hq => by rw [hc] at hq; cases hq; exact hk⟩
    · exact ⟨(0, fun _ => 0), fun q hq => absurd ⟨q, hq⟩ hc⟩
  obtain ⟨f, hf⟩ := Classical.axiomOfChoice h
  exact ⟨(fun c => (f c).1, fun c => (f c).2), fun c q hq => hf c q hq⟩
theorem jx_static {C n : String} {N : Nat} {g : Nat → Int32} (hN : N < 2 ^ 31) (harr : (Cond.arrayOf (.static C n "[I") .int).before args U = true) (hlen : (Cond.eq (.length (.static C n "[I")) (.int (Int32.ofNat N))).before args U = true)
    (hel : ∀ j : Nat, j < N → (Cond.eq (.elem (.static C n "[I") (.int (Int32.ofNat j))) (.int (g j))).before args U = true) (hl : (Cond.laysStatic C n "[I").before args U = true) (hini : (Cond.initialized C).before args U = true) :
    ∃ t : Nat, t < U.heap.size ∧ va_T .int t N (fun j => .int (g j)) (jx_A U.heap.size) U U.heap ∧ va_Z C n "[I" (.ref t) (jx_A U.heap.size) U U.heap := by
  have hA : ∀ a : Nat, a < U.heap.size → ¬ jx_A U.heap.size a := fun a ha q => absurd ha (Nat.not_lt.mpr q)
  obtain ⟨t, h1, h2⟩ := va_Tof (f := fun j => .int (g j)) (A := jx_A U.heap.size) hN harr (va_eqt hlen) (fun j hj => va_eqt (hel j hj)) hA
  obtain ⟨cell, c1, -⟩ := id h2
  exact ⟨t, (Array.getElem?_eq_some_iff.mp c1).1, h2, va_Zref hl hini h1 hA⟩
end START
set_option maxRecDepth 100000 in
theorem jx_start_Wd {s : State} {b L : Nat} {xs : Nat → Int32} (hts : ∀ w ∈ lw_tbl, w.before #[Value.ref b] s = true) (hX : va_X b L xs s s.heap) (hbl : b < s.heap.size) (hgv : (Jvm.Cond.and given_1 narrow_1).before #[Value.ref b] s = true) :
    ∃ (rom : Nat → Nat) (D : va_G) (tc : Nat → ClassId), rom 0 = b ∧ jx_Wd s.heap.size rom (jx_rc L xs) D tc s := by
  have hs := flat_of_before _ hgv
  obtain ⟨D, hD⟩ := jx_classes hts
  obtain ⟨t1, s1, u1, v1⟩ := jx_static (C := "RoomTrees$Step") (n := "HAS") (N := 8) (g := jx_rom 1) (by decide) (hs _ (by decide +kernel)) (hs _ (by decide +kernel))
    (fun j hj => match j, hj with
      | 0, _ => hs _ (by decide +kernel)
      | 1, _ => hs _ (by decide +kernel)
      | 2, _ => hs _ (by decide +kernel)
      | 3, _ => hs _ (by decide +kernel)
      | 4, _ => hs _ (by decide +kernel)
      | 5, _ => hs _ (by decide +kernel)
      | 6, _ => hs _ (by decide +kernel)
      | 7, _ => hs _ (by decide +kernel)
      | k + 8, hk => absurd hk (by omega))
    (hts _ (jx_tb_in (j := 3) (List.mem_of_getElem? (i := 22) (by decide +kernel)))) (hts _ (jx_tb_in (j := 1) (List.mem_of_getElem? (i := 3) (by decide +kernel))))
  obtain ⟨t2, s2, u2, v2⟩ := jx_static (C := "RoomTrees$Step") (n := "NEW") (N := 8) (g := jx_rom 2) (by decide) (hs _ (by decide +kernel)) (hs _ (by decide +kernel))
    (fun j hj => match j, hj with
      | 0, _ => hs _ (by decide +kernel)
      | 1, _ => hs _ (by decide +kernel)
      | 2, _ => hs _ (by decide +kernel)
      | 3, _ => hs _ (by decide +kernel)
      | 4, _ => hs _ (by decide +kernel)
      | 5, _ => hs _ (by decide +kernel)
      | 6, _ => hs _ (by decide +kernel)
      | 7, _ => hs _ (by decide +kernel)
      | k + 8, hk => absurd hk (by omega))
    (hts _ (jx_tb_in (j := 3) (List.mem_of_getElem? (i := 40) (by decide +kernel)))) (hts _ (jx_tb_in (j := 1) (List.mem_of_getElem? (i := 3) (by decide +kernel))))
  obtain ⟨t3, s3, u3, v3⟩ := jx_static (C := "RoomTrees$Crew") (n := "UNDER") (N := 6) (g := jx_rom 3) (by decide) (hs _ (by decide +kernel)) (hs _ (by decide +kernel))
    (fun j hj => match j, hj with
      | 0, _ => hs _ (by decide +kernel)
      | 1, _ => hs _ (by decide +kernel)
      | 2, _ => hs _ (by decide +kernel)
      | 3, _ => hs _ (by decide +kernel)
      | 4, _ => hs _ (by decide +kernel)
      | 5, _ => hs _ (by decide +kernel)
      | k + 6, hk => absurd hk (by omega))
    (hts _ (jx_tb_in (j := 5) (List.mem_of_getElem? (i := 45) (by decide +kernel)))) (hts _ (jx_tb_in (j := 1) (List.mem_of_getElem? (i := 11) (by decide +kernel))))
  obtain ⟨c0, p0, q0⟩ := jx_arr_kn (hts _ (jx_tb_in (j := 1) (List.mem_of_getElem? (i := 45) (by decide +kernel)) : Cond.arrayClass .int ∈ lw_tbl))
  obtain ⟨c1, p1, q1⟩ := jx_arr_kn (hts _ (jx_tb_in (j := 1) (List.mem_of_getElem? (i := 185) (by decide +kernel)) : Cond.arrayClass .long ∈ lw_tbl))
  obtain ⟨c2, p2, q2⟩ := jx_arr_kn (hts _ (jx_tb_in (j := 1) (List.mem_of_getElem? (i := 210) (by decide +kernel)) : Cond.arrayClass .byte ∈ lw_tbl))
  obtain ⟨c3, p3, q3⟩ := jx_arr_kn (hts _ (jx_tb_in (j := 6) (List.mem_of_getElem? (i := 107) (by decide +kernel)) : Cond.arrayClass .boolean ∈ lw_tbl))
  have w4 := hts _ (jx_tb_in (j := 1) (List.mem_of_getElem? (i := 230) (by decide +kernel)) : Cond.arrayOver (.object "RoomTrees$Forest") ∈ lw_tbl)
  obtain ⟨c4, p4, q4⟩ := jx_arr_ov w4
  have w5 := hts _ (jx_tb_in (j := 2) (List.mem_of_getElem? (i := 50) (by decide +kernel)) : Cond.arrayOver (.object "RoomTrees$Sheet") ∈ lw_tbl)
  obtain ⟨c5, p5, q5⟩ := jx_arr_ov w5
  have w6 := hts _ (jx_tb_in (j := 1) (List.mem_of_getElem? (i := 95) (by decide +kernel)) : Cond.arrayOver (.object "RoomTrees$Step") ∈ lw_tbl)
  obtain ⟨c6, p6, q6⟩ := jx_arr_ov w6
  have w7 := hts _ (jx_tb_in (j := 1) (List.mem_of_getElem? (i := 195) (by decide +kernel)) : Cond.arrayOver (.object "RoomTrees$Text") ∈ lw_tbl)
  obtain ⟨c7, p7, q7⟩ := jx_arr_ov w7
  have w8 := hts _ (jx_tb_in (j := 5) (List.mem_of_getElem? (i := 225) (by decide +kernel)) : Cond.arrayOver (.array .int) ∈ lw_tbl)
  obtain ⟨c8, p8, q8⟩ := jx_arr_oa w8
  refine ⟨fun k => match k with | 1 => t1 | 2 => t2 | 3 => t3 | _ => b, D, fun k => match k with | 0 => c0 | 1 => c1 | 2 => c2 | 3 => c3 | 4 => c4 | 5 => c5 | 6 => c6 | 7 => c7 | _ => c8, rfl, ⟨hD, fun k q hq => ?_⟩, fun w hw => va_Nw.of (jx_nest_tab hw) (hts w (List.mem_filter.mp hw).1), ⟨va_AO.of w4, va_AO.of w5, va_AO.of w6, va_AO.of w7, w8⟩, Nat.le_refl _, fun k => ?_, fun k k1 k3 => ?_⟩
  · rcases k with _ | _ | _ | _ | _ | _ | _ | _ | _ | k
    · cases hq; exact ⟨p0, q0⟩
    · cases hq; exact ⟨p1, q1⟩
    · cases hq; exact ⟨p2, q2⟩
    · cases hq; exact ⟨p3, q3⟩
    · cases hq; exact ⟨p4, q4⟩
    · cases hq; exact ⟨p5, q5⟩
    · cases hq; exact ⟨p6, q6⟩
    · cases hq; exact ⟨p7, q7⟩
    · cases hq; exact ⟨p8, q8⟩
    · cases hq
  · have hb : b < s.heap.size ∧ va_T .int b L (fun j => .int (xs j)) (jx_A s.heap.size) s s.heap := by
      obtain ⟨scr, x1, x2, x3, x4, x5⟩ := hX
      exact ⟨hbl, scr, x1, x2, x3, Nat.le_of_eq x4.symm, by rw [x4], x5, fun q => absurd hbl (Nat.not_lt.mpr q)⟩
    rcases k with _ | _ | _ | _ | k
    · exact hb
    · exact ⟨s1, u1⟩
    · exact ⟨s2, u2⟩
    · exact ⟨s3, u3⟩
    · exact hb
  · rcases k with _ | _ | _ | _ | k
    · exact absurd k1 (by decide)
    · exact v1
    · exact v2
    · exact v3
    · exact absurd k3 (by omega)
/-! THE CLAIM OUT OF ONE WALK OF THE LAW'S BODY. Your part is whole_start (and what it stands on); all else here is the same for every law, but numbers. -/
def R_law : String := "RoomTreesLaw"
def lw_P (b : Addr) (xs : List Int32) (args : Array Value) (s : State) : Prop := args = #[.ref b] ∧ s.IntsAt b xs ∧ xs.length ≤ 3072 ∧ (Jvm.Cond.and given_1 narrow_1).before args s = true
def lw_Q (_ : Array Value) (s : State) (o : Outcome) (t : State) : Prop := o = .returned (some (.int 1)) ∧ Framed s o t [] 600000 7302250
def lw_Z (below : List Frame) (a : Array Value) (s : State) : State → Prop := fun t => ∃ o, t.status = .running ∧ Ended t below o ∧ lw_Q a s o t
/-- the law's own end, with 1 on the stack, nothing written that was there before, its room as the claim has it -/
theorem lw_ret {p : Program} {l : Launch} {e : Env} {s : State} {m : MethodId} {below : List Frame} {meth : Method} {c : Code} {b : Nat} (hx : p.tables.exec = Jvm.exec) (hb : c.code = code) (hr : meth.sig.returnType = ret) (hlocks : meth.locks = false) {pc : Nat} {H : Heap} {ls : Array Slot} (hdg : decode code pc = .ok (.ireturn, 1)) : W p l e room_1 s m #[Value.ref b] below meth c H [] 600000 7302250 (lw_Z below #[Value.ref b] s) (F0 m pc ls [.int 1]) := by
  intro T hT X
  obtain ⟨fs, hret, hrun, hended, hW, hframe⟩ := X.leave (v := some (.int 1)) (hlocks := hlocks) (fun h => by rw [hr] at h; cases h)
  have hmeth' : T.vm.method? m = some meth := X.method'
  refine ⟨T.setFrames fs, ?_, .returned (some (.int 1)), hrun, hended, rfl, ⟨_, rfl⟩, hW, hframe⟩
  jvm_step X.here [X.here.top, hx, hb, hdg, hmeth', hr, ret, narrow_b1]
  (try refine ⟨rfl, ?_⟩); (try refine ⟨rfl, ?_⟩)
  first | (intro acts; rw [hret _ acts rfl rfl rfl]) | rw [hret _ _ rfl rfl rfl]
  exact Steps.refl _
/-- what holds at the law's entry: the machine, the code, the tables' words (any of lw_tbl by 'hts w (by decide +kernel)'), the script of L ints xs at the cell b, what the Statement gives of the start (any of its parts by flat_of_before) -/
def lw_At (p : Program) (s : State) (m : MethodId) (meth : Method) (c : Code) (b L : Nat) (xs : Nat → Int32) : Prop :=
  p.tables.exec = Jvm.exec ∧ c.code = code ∧ meth.sig.returnType = ret ∧ c.maxLocals = 4 ∧ s.vm.findClass R_law = some m.cls ∧ (∀ w ∈ lw_tbl, w.before #[Value.ref b] s = true) ∧ va_X b L xs s s.heap ∧ b < s.heap.size ∧ meth.locks = false ∧ (Jvm.Cond.and given_1 narrow_1).before #[Value.ref b] s = true
theorem whole_start {p : Program} {e : Env} {s : State} {m : MethodId} {below : List Frame} {meth : Method} {c : Code} (l : Launch) (hflags : l.flags = flags0) {b L : Nat} {xs : Nat → Int32} (hL : L ≤ 3072) (C0 : lw_At p s m meth c b L xs) : W p l e room_1 s m #[Value.ref b] below meth c s.heap [] 0 0 (lw_Z below #[Value.ref b] s) (entryFrame m ([Value.ref b] : List Value).toArray 4) := by
  obtain ⟨hx, hb, hr, hml, hown, hts, hX, hbl, hlocks, hgv⟩ := C0
  obtain ⟨rom, D, tc, hr0, hWd⟩ := jx_start_Wd hts hX hbl hgv
  obtain ⟨h', hp, hc1, hc2⟩ := jx_pure hL xs
  have hcg := jx_X_grows (jx_rc L xs) jx_dflt jx_mt 1000
  obtain ⟨n, hn⟩ := (jx_G_iff hcg (0, [(0, .retAddr 0)], [], (0, 0, fun _ => .inr (.inr ()))) (some (.int 1), h')).mp hp
  have hl := lv_entry [Value.ref b] (n := 4) (show 1 ≤ 4 by decide)
  rw [lg_entry_eq]
  generalize (lg_sl [Value.ref b] ++ List.replicate (4 - (lg_sl [Value.ref b]).length) Slot.unset).toArray = ls at hl ⊢
  have hl : lv_has ls 4 (jx_cvL s.heap.size rom [(0, .retAddr 0)]) := by
    show lv_has ls 4 [(0, .ref (rom 0))]
    rw [hr0]
    exact hl
  have hR : jx_Rel s.heap.size rom D tc (0, 0, fun _ => .inr (.inr ())) s.heap := ⟨fun k q hq => (by cases hq), rfl, fun _ _ => rfl⟩
  have hown' : s.vm.findClass (jx_c 13) = some m.cls := hown
  have key := jx_simN (p := p) (l := l) (e := e) (R := room_1) (s := s) (m := m) (args := #[Value.ref b]) (below := below) (meth := meth) (c := c) (Q := lw_Z below #[Value.ref b] s) (n0 := 0) (sl0 := 0) (d := 1000) (res := (some (.int 1), h')) jg_333 hx hb hml hown' (fun w hw => hts w (List.mem_filter.mp hw).1) hWd (fun q => by cases q)
    (by decide) (by decide) (jx_all_met jx_mt_ok 1000) hcg ⟨by rw [Nat.zero_add]; exact hc1, by rw [Nat.zero_add]; exact hc2⟩ ?_ n _ hn
  · exact key 0 (jx_good_0 jg_333) s.heap [] 0 0 ls ⟨hR, va_S.rf, rfl, rfl, rfl⟩ hl
  · intro pc H locs cells slots ls' hend hM
    obtain ⟨m1, m2, m3, m4, m5⟩ := hM
    have k1 : cells ≤ 600000 := by have m3 : h'.1 = 0 + cells := m3; omega
    have k2 : slots ≤ 7302250 := by have m4 : h'.2.1 = 0 + slots := m4; omega
    rcases hend with ⟨x, hv, hdg, hk⟩ | ⟨x, hv, hdg, hk⟩ | ⟨x, hv, hdg, hk⟩ | ⟨hv, hdg, hk⟩
    · exact va_forget (fun q hq => m2.2.2 q hq) (W.widen k1 k2 (lw_ret hx hb hr hlocks hdg))
    · cases hv
    · cases x <;> cases hv
    · cases hv
set_option maxHeartbeats 4000000 in
theorem lw_walk (l : Launch) (hflags : l.flags = flags0) (b : Addr) (xs : List Int32) : MetFree l x (headSpec (Jvm.Cond.code x code maxLocals ret :: tables_1) room_1) (lw_P b xs) (fun _ _ _ _ _ => True) lw_Q := by
  refine MetFree.of_bodyS (code := code) (maxLocals := maxLocals) (ret := ret) (by decide) ?_ ?_
  · intro args s m h hn
    obtain ⟨meth, c, h1, h2, h3, h4, h5, h6, -, -⟩ := Cond.code_spec hn (atoms_spec (ws := Jvm.Cond.code x code maxLocals ret :: tables_1) h _ List.mem_cons_self)
    exact ⟨meth, c, h1, h2, h3, h4, h5, h6⟩
  · intro p e s m args below meth c s₁ B hml0 hP _
    obtain ⟨rfl, hx, hbd, hgv⟩ := hP
    obtain ⟨scr, harrAt, hlist, hof, hsmall⟩ := hx
    obtain ⟨hcb, hkn, -, -⟩ := State.arrayAt?_spec harrAt
    have hown : s.vm.findClass R_law = some m.cls := findClass_of_methodNamed B.named
    have hts0 : ∀ c ∈ (Jvm.Cond.code x code maxLocals ret :: tables_1), c.before #[Value.ref b] s = true := atoms_spec (ws := Jvm.Cond.code x code maxLocals ret :: tables_1) B.pre
    have hts : ∀ w ∈ lw_tbl, w.before #[Value.ref b] s = true := k2_hts_sels lw_privs (fun w hw => hts0 w (List.mem_cons_of_mem _ hw)) lw_privs_ok
    have hml : c.maxLocals = 4 := B.maxLocals_eq (hts0 _ List.mem_cons_self)
    have X₀ : Stand p l e room_1 s m #[Value.ref b] below meth c s₁ [] 0 0 := Stand.of_body B
    have hh0 : s₁.heap = s.heap := by rw [B.state]; rfl
    have hsz : scr.slots.size = xs.length := by rw [← Array.length_toList, hlist, List.length_map]
    have hval : ∀ j : Nat, j < xs.length → scr.slots[j]? = some (.int (xs.getD j 0)) := fun j hj => by
      rw [← Array.getElem?_toList, hlist]
      simp [hj]
    have hbl : b < s.heap.size := (Array.getElem?_eq_some_iff.mp hcb).1
    have hX : va_X b xs.length (fun j => xs.getD j 0) s s.heap := ⟨scr, hcb, hof, hkn, hsz, hval⟩
    have K : W p l e room_1 s m #[Value.ref b] below meth c s₁.heap [] 0 0 (lw_Z below #[Value.ref b] s) (entryFrame m ([Value.ref b] : List Value).toArray 4) := by
      rw [hh0]
      exact whole_start l hflags hbd ⟨B.exec, B.bytes, B.returns, hml, hown, hts, hX, hbl, B.notSynchronized, hgv⟩
    obtain ⟨t, a1, o, b1, b2, b3⟩ := K s₁ rfl X₀
    exact ⟨t, o, a1, b1, b2, b3⟩
theorem lw_pre_spec {args : Array Value} {s : State} (h : (Jvm.Cond.and given_1 narrow_1).before args s = true) (hr : rest_1_c.before args s = true) : ∃ (b : Addr) (xs : List Int32), lw_P b xs args s := by
  have hs := flat_of_before _ h
  have hq := flat_of_before _ hr
  have hc : (Cond.count 1).before args s = true := hs _ (by decide +kernel)
  have harr : (Cond.arrayOf (.arg 0) .int).before args s = true := hs _ (by decide +kernel)
  have hle : (Cond.le (.length (.arg 0)) (.int 3072)).before args s = true := hs _ (by decide +kernel)
  have hlen : (Cond.isInt (.length (.arg 0))).before args s = true := hq _ (by decide +kernel)
  have hall : (Cond.all (.arg 0) (.isInt (.elem (.arg 0) (.index 0)))).before args s = true := hq _ (by decide +kernel)
  obtain ⟨b, xs, hb, hx⟩ := State.ints_of_pre rfl harr hlen hall
  have hsm : xs.length < 2 ^ 31 := hx.choose_spec.2.2.2
  have hev : (Term.length (.arg 0)).eval args s none [] s = some (.int xs.length.toInt32) := hx.length_eval hb
  have hv := Cond.le_ints hev (show (Term.int 3072).eval args s none [] s = some (.int 3072) from rfl)
  have hd : xs.length.toInt32 ≤ 3072 := by
    simpa [Cond.before, Cond.holds, hv] using hle
  have hN : xs.length ≤ 3072 := (Int32.ofNat_le_ofNat hsm (by decide)).mp (show Int32.ofNat xs.length ≤ Int32.ofNat 3072 from hd)
  exact ⟨b, xs, Cond.one_arg hc (show args[0]? = some (.ref b) from hb), hx, hN, h⟩
theorem lw_comes (l : Launch) (hflags : l.flags = flags0) : Comes l x (Jvm.Cond.code x code maxLocals ret :: tables_1) room_1 (fun tb e args s => Calls_1 tb e args s ∧ rest_1 tb e args s ∧ Pre_1 tb e args s)
    (fun _ _ args s o t => lw_Q args s o t) := by
  intro p e ha hc hk s m args below hf hfit hheap happ hpre
  obtain ⟨b, xs, hP⟩ := lw_pre_spec hpre.2.2 hpre.2.1
  obtain ⟨k, o, h1, h2, h3, hQ⟩ := lw_walk l hflags b xs p e ha hc hk s m args below hf ((Spec.applies_iff_loose hf).mp happ).1 hP trivial
  exact ⟨k, o, h1, h2, h3, hQ⟩
theorem lw_frame {s t : State} {o : Outcome} {args : Array Value} (h : Framed s o t [] 600000 7302250) :
    Framed s o t (fieldLocs frame_1_writes args s ++ arrayLocs frame_1_arrays args s ++ staticLocs frame_1_statics s) 600000 7302250 := h
theorem lw_limb (L : Cond) (hL : ∀ (args : Array Value) (s t : State), L.after args s (.returned (some (.int 1))) t = true) :
    ArmFor flags0 classFile x code maxLocals ret World_1 tables_1 room_1 Calls_1 rest_1 Pre_1
      (fun tb e a s o t => postC L tb e a s o t ∧ Framed s o t (fieldLocs frame_1_writes a s ++ arrayLocs frame_1_arrays a s ++ staticLocs frame_1_statics s) 600000 7302250) := by
  intro l hflags _ _ p e ha hc hk s m args below hf hfit hheap happ hpre
  obtain ⟨k, o, h1, h2, h3, rfl, hF⟩ := lw_comes l hflags p e ha hc hk s m args below hf hfit hheap happ hpre
  exact ⟨k, _, h1, h2, h3, hL args s _, lw_frame hF⟩
theorem i_vc : Claimed_1_1 ∧ Claimed_1_2 := ⟨lw_limb limb_1_1 (fun args s t => by simp [limb_1_1, Cond.after, Cond.holds, Cond.value]), lw_limb limb_1_2 (fun args s t => Cond.after_iff.mpr (by
  first | (rw [show limb_1_2 = Cond.eq .result (.int 1) from rfl, Cond.eq_ints (x := 1) (y := 1) rfl rfl]; simp; done) | (simp [limb_1_2, Cond.value, Term.eval]; done)))⟩
