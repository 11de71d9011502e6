/-! The words, by their places; what a method's rows must be -/
def jx_big : List Cond := lw_tbl.filter goodWord
def jx_isNest : Cond → Bool
  | .fieldLinkNest .. => true
  | .methodLinkNest .. => true
  | _ => false
def jx_nest : List Cond := lw_tbl.filter jx_isNest
/-- the words' lists, by number; a place is 1000 times the list's number, and the place in it -/
def jx_tb : Nat → List Cond
  | 0 => k2_sels lw_privs
  | 1 => tables_1_1
  | 2 => tables_1_2
  | 3 => tables_1_3
  | 4 => tables_1_4
  | 5 => tables_1_5
  | 6 => tables_1_6
  | 7 => tables_1_7
  | _ => tables_1_8
theorem jx_tb_in {j : Nat} {w : Cond} (h : w ∈ jx_tb j) : w ∈ lw_tbl := by
  unfold lw_tbl tables_1
  simp only [List.mem_append]
  unfold jx_tb at h
  split at h <;> simp [h]
def jx_okw (p : Nat) (w : Cond) : Bool := decide ((jx_tb (p / 1000))[p % 1000]? = some w) && goodWord w
def jx_okn (p : Nat) (w : Cond) : Bool := decide ((jx_tb (p / 1000))[p % 1000]? = some w) && jx_isNest w
theorem jx_okw_in {p : Nat} {w : Cond} (h : jx_okw p w = true) : w ∈ jx_big := by
  unfold jx_okw at h
  rw [Bool.and_eq_true, decide_eq_true_eq] at h
  exact List.mem_filter.mpr ⟨jx_tb_in (List.mem_of_getElem? h.1), h.2⟩
theorem jx_okn_in {p : Nat} {w : Cond} (h : jx_okn p w = true) : w ∈ jx_nest := by
  unfold jx_okn at h
  rw [Bool.and_eq_true, decide_eq_true_eq] at h
  exact List.mem_filter.mpr ⟨jx_tb_in (List.mem_of_getElem? h.1), h.2⟩
def jx_flF (own ix ci k : Nat) (p : Nat) : Bool := match vwCl[ci]? with
  | some r => decide (k < r.2.2) && jx_okw p (.fieldLink (jx_c own) ix (r.2.1 k).1 (r.2.1 k).2.1 (r.2.1 k).2.2.1)
  | none => false
def jx_flN (own ix ci k : Nat) (p : Nat) : Bool := match vwCl[ci]? with
  | some r => decide (k < r.2.2) && jx_okn p (.fieldLinkNest (jx_c own) ix (r.2.1 k).1 (r.2.1 k).2.1 (r.2.1 k).2.2.1 "RoomTrees")
  | none => false
def jx_st : Nat → String × String
  | 1 => ("RoomTrees$Step", "HAS")
  | 2 => ("RoomTrees$Step", "NEW")
  | _ => ("RoomTrees$Crew", "UNDER")
def jx_miy (q : jxMi) : MethodName := q.1
def jx_mib (q : jxMi) : ByteArray := q.2.1
def jx_mil (q : jxMi) : Nat := q.2.2.1
def jx_mir (q : jxMi) : Option FieldType := q.2.2.2.1
def jx_mio (q : jxMi) : Option Nat := q.2.2.2.2.1
def jx_miw (q : jxMi) : Nat := q.2.2.2.2.2.1
def jx_min (q : jxMi) : Nat := q.2.2.2.2.2.2.1
def jx_mip (q : jxMi) : Nat × Nat × Nat × Nat := q.2.2.2.2.2.2.2
def jx_mic (q : jxMi) : Bool :=
  jx_okw (jx_mip q).2.1 (.initialized (jx_miy q).cls) &&
  (match jx_mio q with
    | none => jx_okw (jx_mip q).2.2.1 (.static (jx_miy q))
    | some ci => jx_okw (jx_mip q).2.2.1 (.instanceMethod (jx_miy q)) && decide ((vwCl[ci]?.map (fun r => r.1)) = some (jx_miy q).cls) && (decide ((jx_miy q).name = "<init>" ∧ jx_mir q = none) || (decide ((jx_miy q).name ≠ "<init>") && jx_okw (jx_mip q).2.2.2 (.selects (jx_miy q).cls (jx_miy q) (jx_miy q))))) &&
  decide ((jx_miy q).cls ≠ "java/lang/invoke/MethodHandle" ∧ (jx_miy q).cls ≠ "java/lang/invoke/VarHandle" ∧ (parseMethodDescriptor (jx_miy q).desc).map (fun d => d.parameters.length) = some (jx_min q)) &&
  plainFor (jx_miy q) && decide (jx_mil q ≤ 41) && decide (jx_c (jx_miw q) = (jx_miy q).cls)
set_option maxRecDepth 100000 in
theorem jx_mi_ok0 : jx_mi_0.all jx_mic = true := by decide +kernel
set_option maxRecDepth 100000 in
theorem jx_mi_ok1 : jx_mi_1.all jx_mic = true := by decide +kernel
set_option maxRecDepth 100000 in
theorem jx_mi_ok2 : jx_mi_2.all jx_mic = true := by decide +kernel
set_option maxRecDepth 100000 in
theorem jx_mi_ok3 : jx_mi_3.all jx_mic = true := by decide +kernel
set_option maxRecDepth 100000 in
theorem jx_mi_ok4 : jx_mi_4.all jx_mic = true := by decide +kernel
set_option maxRecDepth 100000 in
theorem jx_mi_ok5 : jx_mi_5.all jx_mic = true := by decide +kernel
theorem jx_mi_ok : jx_mi.all jx_mic = true := by
  unfold jx_mi
  simp only [List.all_append, jx_mi_ok0, jx_mi_ok1, jx_mi_ok2, jx_mi_ok3, jx_mi_ok4, jx_mi_ok5, Bool.and_self]
def jx_cok (l : List jxMi) : Prop := l.map (fun q => (jx_tb ((jx_mip q).1 / 1000))[(jx_mip q).1 % 1000]?) = l.map (fun q => some (.code (jx_miy q) (jx_mib q) (jx_mil q) (jx_mir q)))
set_option maxRecDepth 100000 in
theorem jx_co_ok0 : jx_cok jx_mi_0 := by rfl
set_option maxRecDepth 100000 in
theorem jx_co_ok1 : jx_cok jx_mi_1 := by rfl
set_option maxRecDepth 100000 in
theorem jx_co_ok2 : jx_cok jx_mi_2 := by rfl
set_option maxRecDepth 100000 in
theorem jx_co_ok3 : jx_cok jx_mi_3 := by rfl
set_option maxRecDepth 100000 in
theorem jx_co_ok4 : jx_cok jx_mi_4 := by rfl
set_option maxRecDepth 100000 in
theorem jx_co_ok5 : jx_cok jx_mi_5 := by rfl
theorem jx_cok_app {a b : List jxMi} (ha : jx_cok a) (hb : jx_cok b) : jx_cok (a ++ b) := by
  unfold jx_cok at *
  rw [List.map_append, List.map_append, ha, hb]
theorem jx_co_ok : jx_cok jx_mi := jx_cok_app jx_co_ok0 (jx_cok_app jx_co_ok1 (jx_cok_app jx_co_ok2 (jx_cok_app jx_co_ok3 (jx_cok_app jx_co_ok4 jx_co_ok5))))
theorem jx_code_good (y : MethodName) (b : ByteArray) (n : Nat) (r : Option FieldType) : goodWord (.code y b n r) = true := rfl
theorem jx_code_in {q : jxMi} (h : q ∈ jx_mi) : Cond.code (jx_miy q) (jx_mib q) (jx_mil q) (jx_mir q) ∈ jx_big := by
  obtain ⟨k, hk⟩ := List.getElem?_of_mem h
  have h1 := congrArg (fun l : List (Option Cond) => l[k]?) jx_co_ok
  simp only [List.getElem?_map, hk, Option.map_some, Option.some.injEq] at h1
  exact List.mem_filter.mpr ⟨jx_tb_in (List.mem_of_getElem? h1), jx_code_good _ _ _ _⟩
set_option maxRecDepth 100000 in
theorem jx_fl_ok : jx_fl.all (fun q => jx_flF q.1 q.2.1 q.2.2.1 q.2.2.2.1 q.2.2.2.2) = true := by decide +kernel
set_option maxRecDepth 100000 in
theorem jx_fln_ok : jx_fln.all (fun q => jx_flN q.1 q.2.1 q.2.2.1 q.2.2.2.1 q.2.2.2.2) = true := by decide +kernel
set_option maxRecDepth 100000 in
theorem jx_sl_ok : jx_sl.all (fun q => jx_okw q.2.2.2 (.fieldLink (jx_c q.1) q.2.1 (jx_st q.2.2.1).1 (jx_st q.2.2.1).2 "[I")) = true := by decide +kernel
set_option maxRecDepth 100000 in
theorem jx_ml_ok : jx_ml.all (fun q => match jx_mi[q.2.2.1]? with
  | some m => jx_okw q.2.2.2 (.methodLink (jx_c q.1) q.2.1 (jx_miy m))
  | none => false) = true := by decide +kernel
set_option maxRecDepth 100000 in
theorem jx_mln_ok : jx_mln.all (fun q => match jx_mi[q.2.2.1]? with
  | some m => jx_okn q.2.2.2 (.methodLinkNest (jx_c q.1) q.2.1 (jx_miy m) "RoomTrees")
  | none => false) = true := by decide +kernel
set_option maxRecDepth 100000 in
theorem jx_ol_ok : jx_ol.all (fun q => jx_okw q.2.2 (.methodLink (jx_c q.1) q.2.1 objectInit)) = true := by decide +kernel
set_option maxRecDepth 100000 in
theorem jx_al_ok : jx_al.all (fun q => jx_okw q.2.2 (.methodLink (jx_c q.1) q.2.1 arraycopyName)) = true := by decide +kernel
set_option maxRecDepth 100000 in
theorem jx_cl_ok : jx_cl.all (fun q => match vwCl[q.2.2.1]? with
  | some r => jx_okw q.2.2.2.1 (.classLink (jx_c q.1) q.2.1 r.1) && jx_okw q.2.2.2.2.1 (.instantiable r.1 r.2.2) && jx_okw q.2.2.2.2.2 (.initialized r.1)
  | none => false) = true := by decide +kernel
set_option maxRecDepth 100000 in
theorem jx_dl_ok : jx_dl.all (fun q => jx_okw q.2.2 (.classLink (jx_c q.1) q.2.1 ("[" ++ (FieldType.array .int).toString))) = true := by decide +kernel
set_option maxRecDepth 100000 in
theorem jx_kl_ok : jx_kl.all (fun q => jx_okw q.2.2.2 (.constant (jx_c q.1) q.2.1 q.2.2.1)) = true := by decide +kernel
set_option maxRecDepth 100000 in
theorem jx_kll_ok : jx_kll.all (fun q => jx_okw q.2.2.2 (.constantLong (jx_c q.1) q.2.1 q.2.2.1)) = true := by decide +kernel
set_option maxRecDepth 100000 in
theorem jx_lay_ok : jx_lay.all (fun q => match vwCl[q.1]? with
  | some r => jx_okw q.2.2 (u_lay r.1 r.2.1 q.2.1)
  | none => false) = true := by decide +kernel
set_option maxRecDepth 100000 in
theorem jx_obj_ok : (jx_okw jx_objPos.1 (.instanceMethod objectInit) && jx_okw jx_objPos.2 (.code objectInit ⟨#[0xb1]⟩ 1 none)) = true := by decide +kernel
set_option maxRecDepth 100000 in
theorem jx_sys_ok : (jx_okw jx_sysPos.1 (.static arraycopyName) && jx_okw jx_sysPos.2.1 (.initialized "java/lang/System") && jx_okw jx_sysPos.2.2 (.native arraycopyName)) = true := by decide +kernel
set_option maxRecDepth 100000 in
theorem jx_arr_ok : jx_arrPos.all (fun q => jx_okw q.2 (.arrayClass q.1)) = true := by decide +kernel
