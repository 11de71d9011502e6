/-! The cells of ours in the machine's heap: cell i at the address bs + i; table k at rom k -/
def jx_ty : Nat → FieldType
  | 0 => .int
  | 1 => .long
  | 2 => .byte
  | 3 => .boolean
  | 4 => .object "RoomTrees$Forest"
  | 5 => .object "RoomTrees$Sheet"
  | 6 => .object "RoomTrees$Step"
  | 7 => .object "RoomTrees$Text"
  | _ => .array .int
abbrev jx_tys (tc : Nat → ClassId) : List (ClassId × FieldType) := [(tc 0, .int), (tc 1, .long), (tc 2, .byte), (tc 3, .boolean), (tc 4, .object "RoomTrees$Forest"), (tc 5, .object "RoomTrees$Sheet"), (tc 6, .object "RoomTrees$Step"), (tc 7, .object "RoomTrees$Text"), (tc 8, .array .int)]
def jx_cv (bs : Nat) (rom : Nat → Nat) : Value → Value
  | .ref a => .ref (bs + a)
  | .retAddr k => .ref (rom k)
  | v => v
abbrev jxD := (Nat → Int32) ⊕ (Nat → Int64) ⊕ (Nat → UInt32) ⊕ (Nat → UInt64) ⊕ (Nat → Option Nat)
def jx_cvD (bs t : Nat) (d : jxD) : jxD := match d with
  | .inl g => .inl (if t = 2 then fun j => (g j).toInt8.toInt32 else g)
  | .inr (.inr (.inr (.inr g))) => .inr (.inr (.inr (.inr (fun j => (g j).map (fun a => bs + a)))))
  | d => d
def jx_cvE (bs : Nat) (rom : Nat → Nat) (tc : Nat → ClassId) (e : jxE) : va_E := match e with
  | .inl (c, fs) => .inr (c, fs.map (jx_cv bs rom))
  | .inr (.inl (t, n, d)) => .inl (tc t, n, jx_cvD bs t d)
  | .inr (.inr _) => .inr (0, [])
def jx_ws (bs : Nat) (rom : Nat → Nat) (tc : Nat → ClassId) (h : jxH) : va_W := (List.range h.1).map (fun i => (bs + i, jx_cvE bs rom tc (h.2.2 i)))
def jx_A (bs : Nat) : Nat → Prop := fun q => bs ≤ q
def jx_Rel (bs : Nat) (rom : Nat → Nat) (D : va_G) (tc : Nat → ClassId) (h : jxH) (H : Heap) : Prop := va_P D vwCl (jx_ws bs rom tc h) H ∧ H.size = bs + h.1 ∧ ∀ i, h.1 ≤ i → h.2.2 i = .inr (.inr ())
def jx_AA (U : State) : Prop := (Cond.arrayOver (.array .int)).before #[] U = true
theorem jx_AA.moved {u U : State} (hvm : u.vm.Alike U.vm) (h : jx_AA u) : jx_AA U := by
  obtain ⟨comp, c, k, h1, h2, h3, h4, h5⟩ := arrayOverA_spec h
  obtain ⟨k', hk', he⟩ := hvm.2.2 _ _ h3
  have hi : (U.vm.classes.findIdx? fun (x : Class) => match x.kind with | .array component _ => component == comp | _ => false) = some c := by
    have e : U.vm.bare = u.vm.bare := by first | exact hvm.bare_eq | exact hvm.bare_eq.symm
    refine (va_idx_bare U.vm comp).symm.trans ?_
    rw [e]
    exact (va_idx_bare u.vm comp).trans h2
  have hkind : k'.kind = .array comp (.array .int) := by rw [he]; exact h4
  have f1 : U.vm.findClass (FieldType.array .int).toString = some comp := by rw [hvm.findClass]; exact h1
  have f2 : U.vm.findClass ("[" ++ (FieldType.array .int).toString) = some c := by rw [hvm.findClass]; exact h5
  unfold jx_AA Cond.before Cond.holds
  simp only [Cond.value]
  rw [f1, Option.bind_some]
  refine (congrArg (fun o : Option Nat => (o.bind (fun c => (U.vm.classes[c]?).map fun (k : Class) => match k.kind with | .array _ ty => decide (ty = FieldType.array .int) && decide (U.vm.findClass ("[" ++ (FieldType.array .int).toString) = some c) | _ => false) == some true)) hi).trans ?_
  simp [hk', hkind, f2]
/-- what stays the same in a whole run -/
def jx_Wd (bs : Nat) (rom : Nat → Nat) (rc : Nat → Nat × (Nat → Int32)) (D : va_G) (tc : Nat → ClassId) (U : State) : Prop :=
  va_K D vwCl (jx_tys tc) U ∧ (∀ w ∈ jx_nest, va_Nw w U) ∧ (va_AO "RoomTrees$Forest" U ∧ va_AO "RoomTrees$Sheet" U ∧ va_AO "RoomTrees$Step" U ∧ va_AO "RoomTrees$Text" U ∧ jx_AA U) ∧ bs ≤ U.heap.size ∧
  (∀ k, rom k < bs ∧ va_T .int (rom k) (rc k).1 (fun j => .int ((rc k).2 j)) (jx_A bs) U U.heap) ∧
  (∀ k, 1 ≤ k → k ≤ 3 → va_Z (jx_st k).1 (jx_st k).2 "[I" (.ref (rom k)) (jx_A bs) U U.heap)
section WLD
variable {bs : Nat} {rom : Nat → Nat} {rc : Nat → Nat × (Nat → Int32)} {D : va_G} {tc : Nat → ClassId} {h : jxH} {H : Heap}
theorem jx_ws_get {i : Nat} (hi : i < h.1) : (jx_ws bs rom tc h)[i]? = some (bs + i, jx_cvE bs rom tc (h.2.2 i)) := by
  unfold jx_ws
  rw [List.getElem?_map, List.getElem?_range hi]
  rfl
theorem jx_ws_len : (jx_ws bs rom tc h).length = h.1 := by simp [jx_ws]
theorem jx_ws_D : va_D (jx_A bs) (jx_ws bs rom tc h) := by
  have key : ∀ (k : Nat) (q : Nat × va_E), (jx_ws bs rom tc h)[k]? = some q → q.1 = bs + k := by
    intro k q hk
    have hl := (List.getElem?_eq_some_iff.mp hk).1
    rw [jx_ws_len] at hl
    rw [jx_ws_get hl] at hk
    cases hk
    rfl
  refine ⟨fun i j p q hi hj e => ?_, fun k q hk => ?_⟩
  · have h1 := key i p hi
    have h2 := key j q hj
    omega
  · rw [key k q hk]
    exact Nat.le_add_right _ _
theorem jx_ws_set {a : Nat} {e : jxE} (ha : a < h.1) : jx_ws bs rom tc (jx_set h a e) = (jx_ws bs rom tc h).set a (bs + a, jx_cvE bs rom tc e) := by
  apply List.ext_getElem?
  intro i
  by_cases hi : i < h.1
  · rw [jx_ws_get (h := jx_set h a e) hi]
    by_cases hia : i = a
    · subst hia
      rw [List.getElem?_set_self (by rw [jx_ws_len]; exact hi)]
      simp [jx_set, va_up]
    · rw [List.getElem?_set_ne (Ne.symm hia), jx_ws_get hi]
      simp [jx_set, va_up, hia]
  · rw [List.getElem?_eq_none (by rw [jx_ws_len]; exact Nat.le_of_not_lt hi), List.getElem?_eq_none (by rw [List.length_set, jx_ws_len]; exact Nat.le_of_not_lt hi)]
theorem jx_ws_new {n : Nat} {e : jxE} : jx_ws bs rom tc (jx_new h n e) = jx_ws bs rom tc h ++ [(bs + h.1, jx_cvE bs rom tc e)] := by
  unfold jx_ws jx_new
  dsimp only
  rw [List.range_succ, List.map_append]
  congr 1
  · apply List.map_congr_left
    intro i hi
    have := List.mem_range.mp hi
    rw [va_up, if_neg (by omega)]
  · simp [va_up]
theorem jx_Rel.lt (hR : jx_Rel bs rom D tc h H) {a : Nat} (ha : jx_at h a ≠ .inr (.inr ())) : a < h.1 := by
  rcases Nat.lt_or_ge a h.1 with q | q
  · exact q
  · exact absurd (hR.2.2 a q) ha
theorem jx_Rel.at (hR : jx_Rel bs rom D tc h H) {a : Nat} {e : jxE} (he : jx_at h a = e) (hn : e ≠ .inr (.inr ())) : (jx_ws bs rom tc h)[a]? = some (bs + a, jx_cvE bs rom tc e) := by
  subst he
  exact jx_ws_get (hR.lt hn)
theorem jx_Rel.set (hR : jx_Rel bs rom D tc h H) {a : Nat} {e : jxE} {H1 : Heap} (ha : a < h.1) (hs : H1.size = H.size) (hP : va_P D vwCl ((jx_ws bs rom tc h).set a (bs + a, jx_cvE bs rom tc e)) H1) : jx_Rel bs rom D tc (jx_set h a e) H1 := by
  refine ⟨by rw [jx_ws_set ha]; exact hP, by rw [hs]; exact hR.2.1, fun i hi => ?_⟩
  show va_up h.2.2 a e i = _
  rw [va_up, if_neg (fun q => by rw [q] at hi; exact absurd ha (Nat.not_lt.mpr hi))]
  exact hR.2.2 i hi
theorem jx_Rel.new (hR : jx_Rel bs rom D tc h H) {n : Nat} {e : jxE} {H1 : Heap} (hs : H1.size = H.size + 1) (hP : va_P D vwCl (jx_ws bs rom tc h ++ [(bs + h.1, jx_cvE bs rom tc e)]) H1) : jx_Rel bs rom D tc (jx_new h n e) H1 := by
  refine ⟨by rw [jx_ws_new]; exact hP, by rw [hs, hR.2.1]; rfl, fun i hi => ?_⟩
  have hi : h.1 + 1 ≤ i := hi
  show va_up h.2.2 h.1 e i = _
  rw [va_up, if_neg (by omega)]
  exact hR.2.2 i (by omega)
theorem jx_out_in {i : Int32} {n : Nat} (h : jx_out i n = false) : vp_in i n := by
  unfold jx_out at h
  rw [Bool.or_eq_false_iff, decide_eq_false_iff_not, decide_eq_false_iff_not] at h
  exact fun q => q.elim h.1 h.2
theorem jx_nest_moved {w : Cond} (hw : w ∈ jx_nest) {s U : State} (hW : s.WarmedH U.vm) (h : va_Nw w s) : va_Nw w U := by
  have hn := (List.mem_filter.mp hw).2
  cases w <;> first | (cases hn; done) | exact va_Nw.warmF hW h | exact va_Nw.warmM hW h
theorem jx_nest_tab {w : Cond} (hw : w ∈ jx_nest) : w.onTables = true := by
  have hn := (List.mem_filter.mp hw).2
  cases w <;> first | (cases hn; done) | rfl
theorem jx_Wd.warm {s U : State} (hW : s.WarmedH U.vm) (hs : s.heap.size ≤ U.heap.size) (hk : ∀ q, q < s.heap.size → ¬ jx_A bs q → U.heap[q]? = s.heap[q]?) (h : jx_Wd bs rom rc D tc s) : jx_Wd bs rom rc D tc U := by
  obtain ⟨h1, h2, ⟨h3, h4, h5, h6, h6a⟩, h7, h8, h9⟩ := h
  refine ⟨h1.moved hW.alike, fun w hw => jx_nest_moved hw hW (h2 w hw), ⟨h3.moved hW.alike, h4.moved hW.alike, h5.moved hW.alike, h6.moved hW.alike, h6a.moved hW.alike⟩, Nat.le_trans h7 hs, fun k => ?_, fun k k1 k3 => ?_⟩
  · obtain ⟨g1, g2⟩ := h8 k
    exact ⟨g1, (g2.moved hW.alike).kept hk⟩
  · exact ((h9 k k1 k3).moved hW.alike).kept hk
theorem jx_Wd.calling {u : State} {g : JFrame} {mk : MethodId} {a : Array Value} (h : jx_Wd bs rom rc D tc u) : jx_Wd bs rom rc D tc (u.calling g mk a) := by
  obtain ⟨h1, h2, ⟨h3, h4, h5, h6, h6a⟩, h7, h8, h9⟩ := h
  have hv : u.vm.Alike (u.calling g mk a).vm := Vm.Alike.refl u.vm
  refine ⟨va_K.moved (u := u) (U := u.calling g mk a) hv h1, fun w hw => va_Nw.same (u := u) (U := u.calling g mk a) (jx_nest_tab hw) rfl (h2 w hw), ⟨va_AO.moved (u := u) (U := u.calling g mk a) hv h3, va_AO.moved (u := u) (U := u.calling g mk a) hv h4, va_AO.moved (u := u) (U := u.calling g mk a) hv h5, va_AO.moved (u := u) (U := u.calling g mk a) hv h6, jx_AA.moved (u := u) (U := u.calling g mk a) hv h6a⟩, h7, fun k => ⟨(h8 k).1, va_T.moved (u := u) (U := u.calling g mk a) hv (h8 k).2⟩, fun k k1 k3 => va_Z.moved (u := u) (U := u.calling g mk a) hv (h9 k k1 k3)⟩
theorem jx_ld_in : ∀ {l : List (Nat × Value)} {i : Nat} {v : Value}, jx_ld l i = some v → (i, v) ∈ l
  | [], _, _, h => by cases h
  | q :: t, i, v, h => by
    unfold jx_ld at h
    by_cases e : q.1 = i
    · rw [if_pos e] at h
      cases h
      subst e
      exact List.mem_cons_self
    · rw [if_neg e] at h
      exact List.mem_cons_of_mem _ (jx_ld_in h)
theorem jx_pick_in {l : List (Nat × Value)} : ∀ {L : List Nat} {q : Nat × Value}, q ∈ jx_pick l L → q ∈ l
  | [], _, h => by cases h
  | i :: t, q, h => by
    unfold jx_pick at h
    split at h
    · rename_i v hv
      rcases List.mem_cons.mp h with h | h
      · rw [h]; exact jx_ld_in hv
      · exact jx_pick_in h
    · exact jx_pick_in h
abbrev jx_cvL (bs : Nat) (rom : Nat → Nat) (l : List (Nat × Value)) : List (Nat × Value) := l.map (fun q => (q.1, jx_cv bs rom q.2))
theorem jx_cv_cat (v : Value) : (jx_cv bs rom v).category = v.category := by cases v <;> rfl
theorem jx_has_ld {ls : Array Slot} {nL : Nat} {l : List (Nat × Value)} (hl : lv_has ls nL (jx_cvL bs rom l)) {i : Nat} {v : Value} (h : jx_ld l i = some v) : ls[i]? = some (.val (jx_cv bs rom v)) :=
  hl.2.2 (i, jx_cv bs rom v) (List.mem_map.mpr ⟨(i, v), jx_ld_in h, rfl⟩)
theorem jx_has_pick {ls : Array Slot} {nL : Nat} {l : List (Nat × Value)} (hl : lv_has ls nL (jx_cvL bs rom l)) (L : List Nat) : lv_has ls nL (jx_cvL bs rom (jx_pick l L)) :=
  ⟨hl.1, hl.2.1, fun q hq => by
    obtain ⟨q0, h0, rfl⟩ := List.mem_map.mp hq
    exact hl.2.2 _ (List.mem_map.mpr ⟨q0, jx_pick_in h0, rfl⟩)⟩
theorem jx_cv_st1 (l : List (Nat × Value)) (i : Nat) (v : Value) : (i, jx_cv bs rom v) :: (jx_cvL bs rom l).filter (fun q => !(q.1 == i) && !(q.1 + 1 == i && q.2.category == 2)) = jx_cvL bs rom (jx_st1 l i v) := by
  unfold jx_st1 jx_cvL
  rw [List.map_cons, List.filter_map]
  congr 2
  apply List.filter_congr
  intro q _
  simp [jx_cv_cat]
theorem jx_cv_st2 (l : List (Nat × Value)) (i : Nat) (v : Value) : (i, jx_cv bs rom v) :: (jx_cvL bs rom l).filter (fun q => !(q.1 == i) && (!(q.1 == i + 1) && !(q.1 + 1 == i && q.2.category == 2))) = jx_cvL bs rom (jx_st2 l i v) := by
  unfold jx_st2 jx_cvL
  rw [List.map_cons, List.filter_map]
  congr 2
  apply List.filter_congr
  intro q _
  simp [jx_cv_cat]
end WLD
