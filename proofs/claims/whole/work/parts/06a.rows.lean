/-! What a method's rows must be, and what that gives -/
def jx_seq (look : Nat → Option jxRow) (i : Nat) (r : jxRow) (L : Nat) : Bool := decide (r.len = L) && (match look (i + 1) with
  | some r' => decide (r'.pc = r.pc + L)
  | none => false)
def jx_to (look : Nat → Option jxRow) (r : jxRow) (off : Int) (t : Nat) : Bool := match look t with
  | some r' => decide ((r.pc : Int) + off = (r'.pc : Int))
  | none => false
def jx_hf (own ix ci k : Nat) : Bool := jx_fl.any (fun q => decide (q.1 = own ∧ q.2.1 = ix ∧ q.2.2.1 = ci ∧ q.2.2.2.1 = k)) || jx_fln.any (fun q => decide (q.1 = own ∧ q.2.1 = ix ∧ q.2.2.1 = ci ∧ q.2.2.2.1 = k))
def jx_hm (own ix k : Nat) : Bool := jx_ml.any (fun q => decide (q.1 = own ∧ q.2.1 = ix ∧ q.2.2.1 = k)) || jx_mln.any (fun q => decide (q.1 = own ∧ q.2.1 = ix ∧ q.2.2.1 = k))
def jx_hc (own ix ci : Nat) : Bool := jx_cl.any (fun q => decide (q.1 = own ∧ q.2.1 = ix ∧ q.2.2.1 = ci))
def jx_mth (k : Nat) (f : jxMi → Bool) : Bool := match jx_mi[k]? with
  | some q => f q
  | none => false
def jx_isRef : FieldType → Bool
  | .object _ => true
  | .array _ => true
  | _ => false
def jx_zty (z : Nat) (ty : FieldType) : Bool := match z with
  | 0 => decide (ty = .int)
  | 1 => decide (ty = .long)
  | 2 => jx_isRef ty
  | _ => decide (ty = .boolean)
def jx_hfl (own ix ci k : Nat) : Bool := jx_fl.any (fun q => decide (q.1 = own ∧ q.2.1 = ix ∧ q.2.2.1 = ci ∧ q.2.2.2.1 = k))
def jx_fin (ini : Bool) (own ix ci k : Nat) : Bool := match vwCl[ci]? with
  | some r => decide ((r.2.1 k).2.2.2 = false) || (ini && (jx_hfl own ix ci k && decide ((r.2.1 k).2.2.2 = true ∧ (r.2.1 k).1 = jx_c own)))
  | none => false
def jx_isObj : Option FieldType → Bool
  | some (.object _) => true
  | _ => false
def jx_at4 (a : ArrayType) (x : Nat) : Bool := match a with
  | .int => decide (x = 0)
  | .long => decide (x = 1)
  | .byte => decide (x = 2)
  | .boolean => decide (x = 3)
  | _ => false
/-- own: the class's number; nL: locals; ini: is it a constructor; rk: what it answers -/
def jx_wf (own nL : Nat) (ini : Bool) (rk : Option FieldType) (look : Nat → Option jxRow) (i : Nat) (r : jxRow) : Bool :=
  match r.ins with
  | .iconst n => jx_seq look i r 1 && decide (Int32.ofInt n = r.v)
  | .bipush n => jx_seq look i r 2 && decide ((Int8.ofInt n).toInt32 = r.v)
  | .sipush n => jx_seq look i r 3 && decide ((Int16.ofInt n).toInt32 = r.v)
  | .ldc ix => jx_seq look i r 2 && jx_kl.any (fun q => decide (q.1 = own ∧ q.2.1 = ix ∧ q.2.2.1 = r.v))
  | .ldc_w ix => jx_seq look i r 3 && jx_kl.any (fun q => decide (q.1 = own ∧ q.2.1 = ix ∧ q.2.2.1 = r.v))
  | .lconst n => jx_seq look i r 1 && decide (Int64.ofNat (n : Nat) = r.w)
  | .ldc2_w ix => jx_seq look i r 3 && jx_kll.any (fun q => decide (q.1 = own ∧ q.2.1 = ix ∧ q.2.2.1 = r.w))
  | .aconst_null => jx_seq look i r 1
  | .iload k => jx_seq look i r 2 && decide (k = r.x)
  | .lload k => jx_seq look i r 2 && decide (k = r.x)
  | .aload k => jx_seq look i r 2 && decide (k = r.x)
  | .iload_n k => jx_seq look i r 1 && decide ((k : Nat) = r.x)
  | .lload_n k => jx_seq look i r 1 && decide ((k : Nat) = r.x)
  | .aload_n k => jx_seq look i r 1 && decide ((k : Nat) = r.x)
  | .istore k => jx_seq look i r 2 && decide (k = r.x ∧ k < nL)
  | .astore k => jx_seq look i r 2 && decide (k = r.x ∧ k < nL)
  | .istore_n k => jx_seq look i r 1 && decide ((k : Nat) = r.x ∧ (k : Nat) < nL)
  | .astore_n k => jx_seq look i r 1 && decide ((k : Nat) = r.x ∧ (k : Nat) < nL)
  | .lstore k => jx_seq look i r 2 && decide (k = r.x ∧ k + 1 < nL)
  | .lstore_n k => jx_seq look i r 1 && decide ((k : Nat) = r.x ∧ (k : Nat) + 1 < nL)
  | .iinc k n => jx_seq look i r 3 && decide (k = r.x ∧ k < nL ∧ Int32.ofInt n = r.v)
  | .iadd => jx_seq look i r 1
  | .isub => jx_seq look i r 1
  | .imul => jx_seq look i r 1
  | .iand => jx_seq look i r 1
  | .ior => jx_seq look i r 1
  | .ixor => jx_seq look i r 1
  | .idiv => jx_seq look i r 1
  | .irem => jx_seq look i r 1
  | .ishl => jx_seq look i r 1
  | .ishr => jx_seq look i r 1
  | .iushr => jx_seq look i r 1
  | .ineg => jx_seq look i r 1
  | .ladd => jx_seq look i r 1
  | .lsub => jx_seq look i r 1
  | .lmul => jx_seq look i r 1
  | .land => jx_seq look i r 1
  | .lor => jx_seq look i r 1
  | .lxor => jx_seq look i r 1
  | .ldiv => jx_seq look i r 1
  | .lrem => jx_seq look i r 1
  | .lneg => jx_seq look i r 1
  | .lshl => jx_seq look i r 1
  | .lshr => jx_seq look i r 1
  | .lcmp => jx_seq look i r 1
  | .i2l => jx_seq look i r 1
  | .l2i => jx_seq look i r 1
  | .i2b => jx_seq look i r 1
  | .i2s => jx_seq look i r 1
  | .dup => jx_seq look i r 1
  | .dup2 => jx_seq look i r 1
  | .pop => jx_seq look i r 1
  | .ifCond _ off => jx_seq look i r 3 && jx_to look r off r.x
  | .if_icmp _ off => jx_seq look i r 3 && jx_to look r off r.x
  | .ifnull off => jx_seq look i r 3 && jx_to look r off r.x
  | .ifnonnull off => jx_seq look i r 3 && jx_to look r off r.x
  | .goto off => decide (r.len = 3) && jx_to look r off r.x
  | .tableswitch d lo hi offs => jx_to look r d r.x && (decide (0 ≤ lo ∧ hi < 1000 ∧ hi - lo + 1 = (r.ts.length : Int) ∧ r.v = Int32.ofInt lo) && (decide (offs.size = r.ts.length) && (offs.toList.zip r.ts).all (fun q => jx_to look r q.1 q.2)))
  | .getfield ix => jx_seq look i r 3 && jx_hf own ix r.x r.y
  | .putfield ix => jx_seq look i r 3 && (jx_hf own ix r.x r.y && (jx_zty r.z (jx_fty r.x r.y) && jx_fin ini own ix r.x r.y))
  | .getstatic ix => jx_seq look i r 3 && (jx_sl.any (fun q => decide (q.1 = own ∧ q.2.1 = ix ∧ q.2.2.1 = r.x)) && decide (1 ≤ r.x ∧ r.x ≤ 3))
  | .iaload => jx_seq look i r 1
  | .baload => jx_seq look i r 1
  | .laload => jx_seq look i r 1
  | .iastore => jx_seq look i r 1
  | .bastore => jx_seq look i r 1
  | .lastore => jx_seq look i r 1
  | .arraylength => jx_seq look i r 1
  | .aaload => jx_seq look i r 1 && decide (4 ≤ r.z ∧ r.z ≤ 8)
  | .aastore => jx_seq look i r 1 && decide ((r.z = 4 ∧ r.x = 1) ∨ (r.z = 5 ∧ r.x = 4) ∨ (r.z = 6 ∧ r.x = 6) ∨ (r.z = 7 ∧ r.x = 8))
  | .new ix => jx_seq look i r 3 && (jx_hc own ix r.x && decide ((vwCl[r.x]?.map (fun q => q.2.2)) = some r.y))
  | .newarray a => jx_seq look i r 2 && jx_at4 a r.x
  | .anewarray ix => jx_seq look i r 3 && ((decide (r.x = 4) && jx_hc own ix 1) || ((decide (r.x = 6) && jx_hc own ix 6) || (decide (r.x = 7) && jx_hc own ix 8)) || (decide (r.x = 5) && jx_hc own ix 4))
  | .multianewarray ix d => jx_seq look i r 4 && (decide (d = 2) && jx_dl.any (fun q => decide (q.1 = own ∧ q.2.1 = ix)))
  | .invokespecial ix => jx_seq look i r 3 && (if r.z = 9 then jx_ol.any (fun q => decide (q.1 = own ∧ q.2.1 = ix)) else jx_hm own ix r.x && jx_mth r.x (fun q => decide ((jx_miy q).name = "<init>" ∧ r.y = jx_min q ∧ jx_mio q ≠ none)))
  | .invokestatic ix => jx_seq look i r 3 && (if r.z = 9 then jx_al.any (fun q => decide (q.1 = own ∧ q.2.1 = ix)) && decide (r.x = 0 ∨ r.x = 2) else jx_hm own ix r.x && jx_mth r.x (fun q => decide (r.y = jx_min q ∧ jx_mio q = none)))
  | .invokevirtual ix => jx_seq look i r 3 && (jx_hm own ix r.x && jx_mth r.x (fun q => decide ((jx_miy q).name ≠ "<init>" ∧ r.y = jx_min q ∧ jx_mio q ≠ none)))
  | .ireturn => decide (r.len = 1) && (decide (r.z = 0 ∧ rk = some .int) || decide (r.z ≠ 0 ∧ rk = some .boolean))
  | .lreturn => decide (r.len = 1 ∧ rk = some .long)
  | .areturn => decide (r.len = 1) && jx_isObj rk
  | .return_ => decide (r.len = 1 ∧ rk = none)
  | _ => false
def jx_dk (cc : ByteArray) (r : jxRow) : Bool := match decode cc r.pc with
  | .ok (i, n) => decide (i = r.ins ∧ n = r.len)
  | .error _ => false
theorem jx_dk_spec {cc : ByteArray} {r : jxRow} (h : jx_dk cc r = true) : decode cc r.pc = .ok (r.ins, r.len) := by
  unfold jx_dk at h
  split at h
  · rename_i e
    rw [e]
    rw [decide_eq_true_eq] at h
    rw [h.1, h.2]
  · cases h
def jx_good (cc : ByteArray) (own nL : Nat) (ini : Bool) (rk : Option FieldType) (code : List jxRow) : Bool := decide (code[0]?.map (fun r => r.pc) = some 0) && code.zipIdx.all (fun q => jx_dk cc q.1 && jx_wf own nL ini rk (fun j => code[j]?) q.2 q.1)
theorem jx_good_spec {cc : ByteArray} {own nL : Nat} {ini : Bool} {rk : Option FieldType} {code : List jxRow} (h : jx_good cc own nL ini rk code = true) {i : Nat} {r : jxRow} (hr : code[i]? = some r) : decode cc r.pc = .ok (r.ins, r.len) ∧ jx_wf own nL ini rk (fun j => code[j]?) i r = true := by
  unfold jx_good at h
  rw [Bool.and_eq_true] at h
  have h1 := List.all_eq_true.mp h.2 (r, i) (by
    rw [List.mem_iff_getElem?]
    exact ⟨i, by rw [List.getElem?_zipIdx, hr]; simp⟩)
  rw [Bool.and_eq_true] at h1
  exact ⟨jx_dk_spec h1.1, h1.2⟩
/-- rows in lists of a hundred -/
def jx_lk : List (List jxRow) → Nat → Option jxRow
  | [], _ => none
  | c :: t, i => if i < 100 then c[i]? else jx_lk t (i - 100)
theorem jx_lk_last {c : List jxRow} (hc : c.length ≤ 100) (j : Nat) : jx_lk [c] j = c[j]? := by
  unfold jx_lk
  split
  · rfl
  · rw [List.getElem?_eq_none (by omega)]
    rfl
theorem jx_lk_cons {c : List jxRow} {t : List (List jxRow)} {T : List jxRow} (hc : c.length = 100) (ht : ∀ j, jx_lk t j = T[j]?) (j : Nat) : jx_lk (c :: t) j = (c ++ T)[j]? := by
  unfold jx_lk
  rw [List.getElem?_append, hc]
  split
  · rfl
  · exact ht _
theorem jx_all_app {P : jxRow × Nat → Bool} {a b : List jxRow} {n : Nat} (ha : a.length = 100) (h1 : (a.zipIdx n).all P = true) (h2 : (b.zipIdx (n + 100)).all P = true) : ((a ++ b).zipIdx n).all P = true := by
  rw [List.zipIdx_append, List.all_append, h1, ha, h2]
  rfl
theorem jx_good_lk {cc : ByteArray} {own nL : Nat} {ini : Bool} {rk : Option FieldType} {code : List jxRow} {look : Nat → Option jxRow} (hl : ∀ j, look j = code[j]?) (h0 : decide (code[0]?.map (fun r => r.pc) = some 0) = true) (h : (code.zipIdx 0).all (fun q => jx_dk cc q.1 && jx_wf own nL ini rk look q.2 q.1) = true) : jx_good cc own nL ini rk code = true := by
  have e : look = fun j => code[j]? := funext hl
  subst e
  unfold jx_good
  rw [Bool.and_eq_true]
  exact ⟨h0, h⟩
theorem jx_good_0 {cc : ByteArray} {own nL : Nat} {ini : Bool} {rk : Option FieldType} {code : List jxRow} (h : jx_good cc own nL ini rk code = true) : ∃ r, code[0]? = some r ∧ r.pc = 0 := by
  unfold jx_good at h
  rw [Bool.and_eq_true, decide_eq_true_eq] at h
  cases hr : code[0]? with
  | none => rw [hr] at h; exact absurd h.1 (by simp)
  | some r => rw [hr] at h; exact ⟨r, rfl, Option.some.inj h.1⟩
theorem jx_seq_spec {code : List jxRow} {i : Nat} {r : jxRow} {L : Nat} (h : jx_seq (fun j => code[j]?) i r L = true) : r.len = L ∧ ∃ r', code[i + 1]? = some r' ∧ r'.pc = r.pc + L := by
  unfold jx_seq at h
  rw [Bool.and_eq_true, decide_eq_true_eq] at h
  obtain ⟨h1, h2⟩ := h
  split at h2
  · rename_i r' e
    exact ⟨h1, r', e, of_decide_eq_true h2⟩
  · cases h2
theorem jx_to_spec {code : List jxRow} {r : jxRow} {off : Int} {t : Nat} (h : jx_to (fun j => code[j]?) r off t = true) : ∃ r', code[t]? = some r' ∧ (r.pc : Int) + off = (r'.pc : Int) := by
  unfold jx_to at h
  split at h
  · rename_i r' e
    exact ⟨r', e, of_decide_eq_true h⟩
  · cases h
/-- a field's link: the class's row, the place, the word -/
theorem jx_hf_spec {own ix ci k : Nat} (h : jx_hf own ix ci k = true) : ∃ r : vw_C, vwCl[ci]? = some r ∧ k < r.2.2 ∧ (Cond.fieldLink (jx_c own) ix (r.2.1 k).1 (r.2.1 k).2.1 (r.2.1 k).2.2.1 ∈ jx_big ∨ Cond.fieldLinkNest (jx_c own) ix (r.2.1 k).1 (r.2.1 k).2.1 (r.2.1 k).2.2.1 "RoomTrees" ∈ jx_nest) := by
  unfold jx_hf at h
  rw [Bool.or_eq_true] at h
  rcases h with h | h
  · obtain ⟨q, hq, hd⟩ := List.any_eq_true.mp h
    obtain ⟨e1, e2, e3, e4⟩ := of_decide_eq_true hd
    have h1 := List.all_eq_true.mp jx_fl_ok q hq
    rw [e1, e2, e3, e4] at h1
    unfold jx_flF at h1
    split at h1
    · rename_i r e
      rw [Bool.and_eq_true, decide_eq_true_eq] at h1
      exact ⟨r, e, h1.1, Or.inl (jx_okw_in h1.2)⟩
    · cases h1
  · obtain ⟨q, hq, hd⟩ := List.any_eq_true.mp h
    obtain ⟨e1, e2, e3, e4⟩ := of_decide_eq_true hd
    have h1 := List.all_eq_true.mp jx_fln_ok q hq
    rw [e1, e2, e3, e4] at h1
    unfold jx_flN at h1
    split at h1
    · rename_i r e
      rw [Bool.and_eq_true, decide_eq_true_eq] at h1
      exact ⟨r, e, h1.1, Or.inr (jx_okn_in h1.2)⟩
    · cases h1
theorem jx_hfl_spec {own ix ci k : Nat} (h : jx_hfl own ix ci k = true) : ∃ r : vw_C, vwCl[ci]? = some r ∧ k < r.2.2 ∧ Cond.fieldLink (jx_c own) ix (r.2.1 k).1 (r.2.1 k).2.1 (r.2.1 k).2.2.1 ∈ jx_big := by
  unfold jx_hfl at h
  obtain ⟨q, hq, hd⟩ := List.any_eq_true.mp h
  obtain ⟨e1, e2, e3, e4⟩ := of_decide_eq_true hd
  have h1 := List.all_eq_true.mp jx_fl_ok q hq
  rw [e1, e2, e3, e4] at h1
  unfold jx_flF at h1
  split at h1
  · rename_i r e
    rw [Bool.and_eq_true, decide_eq_true_eq] at h1
    exact ⟨r, e, h1.1, jx_okw_in h1.2⟩
  · cases h1
theorem jx_hm_spec {own ix k : Nat} {q : jxMi} (h : jx_hm own ix k = true) (hq : jx_mi[k]? = some q) : Cond.methodLink (jx_c own) ix (jx_miy q) ∈ jx_big ∨ Cond.methodLinkNest (jx_c own) ix (jx_miy q) "RoomTrees" ∈ jx_nest := by
  unfold jx_hm at h
  rw [Bool.or_eq_true] at h
  rcases h with h | h
  · obtain ⟨q', hq', hd⟩ := List.any_eq_true.mp h
    obtain ⟨e1, e2, e3⟩ := of_decide_eq_true hd
    have h1 := List.all_eq_true.mp jx_ml_ok q' hq'
    rw [e1, e2, e3, hq] at h1
    exact Or.inl (jx_okw_in h1)
  · obtain ⟨q', hq', hd⟩ := List.any_eq_true.mp h
    obtain ⟨e1, e2, e3⟩ := of_decide_eq_true hd
    have h1 := List.all_eq_true.mp jx_mln_ok q' hq'
    rw [e1, e2, e3, hq] at h1
    exact Or.inr (jx_okn_in h1)
theorem jx_hc_spec {own ix ci : Nat} (h : jx_hc own ix ci = true) : ∃ r : vw_C, vwCl[ci]? = some r ∧ Cond.classLink (jx_c own) ix r.1 ∈ jx_big ∧ Cond.instantiable r.1 r.2.2 ∈ jx_big ∧ Cond.initialized r.1 ∈ jx_big := by
  unfold jx_hc at h
  obtain ⟨q, hq, hd⟩ := List.any_eq_true.mp h
  obtain ⟨e1, e2, e3⟩ := of_decide_eq_true hd
  have h1 := List.all_eq_true.mp jx_cl_ok q hq
  rw [e1, e2, e3] at h1
  split at h1
  · rename_i r e
    rw [Bool.and_eq_true, Bool.and_eq_true] at h1
    exact ⟨r, e, jx_okw_in h1.1.1, jx_okw_in h1.1.2, jx_okw_in h1.2⟩
  · cases h1
theorem jx_kl_spec {own ix : Nat} {v : Int32} (h : jx_kl.any (fun q => decide (q.1 = own ∧ q.2.1 = ix ∧ q.2.2.1 = v)) = true) : Cond.constant (jx_c own) ix v ∈ jx_big := by
  obtain ⟨q, hq, hd⟩ := List.any_eq_true.mp h
  obtain ⟨e1, e2, e3⟩ := of_decide_eq_true hd
  have h1 := List.all_eq_true.mp jx_kl_ok q hq
  rw [e1, e2, e3] at h1
  exact jx_okw_in h1
theorem jx_kll_spec {own ix : Nat} {v : Int64} (h : jx_kll.any (fun q => decide (q.1 = own ∧ q.2.1 = ix ∧ q.2.2.1 = v)) = true) : Cond.constantLong (jx_c own) ix v ∈ jx_big := by
  obtain ⟨q, hq, hd⟩ := List.any_eq_true.mp h
  obtain ⟨e1, e2, e3⟩ := of_decide_eq_true hd
  have h1 := List.all_eq_true.mp jx_kll_ok q hq
  rw [e1, e2, e3] at h1
  exact jx_okw_in h1
theorem jx_sl_spec {own ix x : Nat} (h : jx_sl.any (fun q => decide (q.1 = own ∧ q.2.1 = ix ∧ q.2.2.1 = x)) = true) : Cond.fieldLink (jx_c own) ix (jx_st x).1 (jx_st x).2 "[I" ∈ jx_big := by
  obtain ⟨q, hq, hd⟩ := List.any_eq_true.mp h
  obtain ⟨e1, e2, e3⟩ := of_decide_eq_true hd
  have h1 := List.all_eq_true.mp jx_sl_ok q hq
  rw [e1, e2, e3] at h1
  exact jx_okw_in h1
theorem jx_ol_spec {own ix : Nat} (h : jx_ol.any (fun q => decide (q.1 = own ∧ q.2.1 = ix)) = true) : Cond.methodLink (jx_c own) ix objectInit ∈ jx_big := by
  obtain ⟨q, hq, hd⟩ := List.any_eq_true.mp h
  obtain ⟨e1, e2⟩ := of_decide_eq_true hd
  have h1 := List.all_eq_true.mp jx_ol_ok q hq
  rw [e1, e2] at h1
  exact jx_okw_in h1
theorem jx_al_spec {own ix : Nat} (h : jx_al.any (fun q => decide (q.1 = own ∧ q.2.1 = ix)) = true) : Cond.methodLink (jx_c own) ix arraycopyName ∈ jx_big := by
  obtain ⟨q, hq, hd⟩ := List.any_eq_true.mp h
  obtain ⟨e1, e2⟩ := of_decide_eq_true hd
  have h1 := List.all_eq_true.mp jx_al_ok q hq
  rw [e1, e2] at h1
  exact jx_okw_in h1
/-- a method's words -/
def jx_wsm (q : jxMi) : List Cond := Cond.code (jx_miy q) (jx_mib q) (jx_mil q) (jx_mir q) :: jx_big
theorem jx_big_good {w : Cond} (h : w ∈ jx_big) : (w.onTables && w.keeps) = true ∨ ∃ ty, w = .arrayClass ty := good_of_word (List.mem_filter.mp h).2
theorem jx_wsm_good {q : jxMi} (hq : q ∈ jx_mi) : GoodIn jx_big (jx_wsm q) := fun w hw => by
  rcases List.mem_cons.mp hw with h | h
  · rw [h]
    exact ⟨jx_code_in hq, jx_big_good (jx_code_in hq)⟩
  · exact ⟨h, jx_big_good h⟩
theorem jx_mi_spec {q : jxMi} (hq : q ∈ jx_mi) : Cond.initialized (jx_miy q).cls ∈ jx_big ∧
    ((jx_mio q = none → Cond.static (jx_miy q) ∈ jx_big) ∧
      ∀ ci, jx_mio q = some ci → Cond.instanceMethod (jx_miy q) ∈ jx_big ∧ (∃ r : vw_C, vwCl[ci]? = some r ∧ r.1 = (jx_miy q).cls) ∧ ((jx_miy q).name = "<init>" ∧ jx_mir q = none ∨ Cond.selects (jx_miy q).cls (jx_miy q) (jx_miy q) ∈ jx_big ∧ (jx_miy q).name ≠ "<init>")) ∧
    ((jx_miy q).cls ≠ "java/lang/invoke/MethodHandle" ∧ (jx_miy q).cls ≠ "java/lang/invoke/VarHandle" ∧ (parseMethodDescriptor (jx_miy q).desc).map (fun d => d.parameters.length) = some (jx_min q)) ∧
    plainFor (jx_miy q) = true ∧ jx_mil q ≤ 41 ∧ jx_c (jx_miw q) = (jx_miy q).cls := by
  have h := List.all_eq_true.mp jx_mi_ok q hq
  unfold jx_mic at h
  simp only [Bool.and_eq_true, decide_eq_true_eq] at h
  obtain ⟨⟨⟨⟨⟨h1, h2⟩, h3⟩, h4⟩, h5⟩, h6⟩ := h
  refine ⟨jx_okw_in h1, ⟨fun e => ?_, fun ci e => ?_⟩, h3, h4, h5, h6⟩
  · rw [e] at h2
    exact jx_okw_in h2
  · rw [e] at h2
    simp only [Bool.and_eq_true, Bool.or_eq_true, decide_eq_true_eq] at h2
    obtain ⟨⟨g1, g2⟩, g3⟩ := h2
    refine ⟨jx_okw_in g1, ?_, ?_⟩
    · cases hv : vwCl[ci]? with
      | none => rw [hv] at g2; cases g2
      | some r => rw [hv] at g2; exact ⟨r, rfl, Option.some.inj g2⟩
    · rcases g3 with g3 | g3
      · exact Or.inl g3
      · exact Or.inr ⟨jx_okw_in g3.2, g3.1⟩
def jx_layPos (ci k : Nat) : Nat := match jx_lay.find? (fun q => decide (q.1 = ci ∧ q.2.1 = k)) with
  | some q => q.2.2
  | none => 0
set_option maxRecDepth 100000 in
theorem jx_lay_all : (vwCl.zipIdx.all (fun q => (List.range q.1.2.2).all (fun k => jx_okw (jx_layPos q.2 k) (u_lay q.1.1 q.1.2.1 k)))) = true := by decide +kernel
theorem jx_lay_in {ci : Nat} {r : vw_C} (h : vwCl[ci]? = some r) : ∀ w ∈ u_ws r.1 r.2.1 r.2.2, w ∈ jx_big := by
  intro w hw
  obtain ⟨k, hk, rfl⟩ := List.mem_map.mp hw
  have h1 := List.all_eq_true.mp jx_lay_all (r, ci) (by
    rw [List.mem_iff_getElem?]
    exact ⟨ci, by rw [List.getElem?_zipIdx, h]; simp⟩)
  exact jx_okw_in (List.all_eq_true.mp h1 k hk)
theorem jx_cls_ok {ci : Nat} {r : vw_C} (h : vwCl[ci]? = some r) : (∀ k, k < r.2.2 → parseFieldDescriptor (r.2.1 k).2.2.1 = some (jx_fty ci k)) ∧ (∀ a, a < r.2.2 → ∀ b, b < r.2.2 → a ≠ b → (r.2.1 a).2.1 ≠ (r.2.1 b).2.1) := by
  match ci, h with
  | 0, h => cases h; exact ⟨tyX0_ok, nmX0⟩
  | 1, h => cases h; exact ⟨tyX1_ok, nmX1⟩
  | 2, h => cases h; exact ⟨tyX2_ok, nmX2⟩
  | 3, h => cases h; exact ⟨tyX3_ok, nmX3⟩
  | 4, h => cases h; exact ⟨tyX4_ok, nmX4⟩
  | 5, h => cases h; exact ⟨tyX5_ok, nmX5⟩
  | 6, h => cases h; exact ⟨tyX6_ok, nmX6⟩
  | 7, h => cases h; exact ⟨tyX7_ok, nmX7⟩
  | 8, h => cases h; exact ⟨tyX8_ok, nmX8⟩
  | 9, h => cases h; exact ⟨tyX9_ok, nmX9⟩
  | 10, h => cases h; exact ⟨tyX10_ok, nmX10⟩
  | 11, h => cases h; exact ⟨tyX11_ok, nmX11⟩
  | 12, h => cases h; exact ⟨tyX12_ok, nmX12⟩
  | n + 13, h => exact absurd h (by simp [vwCl])
/-- what new objects hold -/
theorem jx_dflt_ok {ci : Nat} {r : vw_C} (h : vwCl[ci]? = some r) : (jx_dflt ci).length = r.2.2 ∧ ∀ j, j < r.2.2 → defaultValue (jx_fty ci j) = vp_V (jx_dflt ci) j := by
  have key : ∀ (N : Nat) (f : Nat → FieldType) (l : List Value), (decide (l.length = N) && (List.range N).all (fun j => decide (defaultValue (f j) = vp_V l j))) = true → l.length = N ∧ ∀ j, j < N → defaultValue (f j) = vp_V l j := by
    intro N f l hh
    rw [Bool.and_eq_true, decide_eq_true_eq] at hh
    exact ⟨hh.1, fun j hj => of_decide_eq_true (List.all_eq_true.mp hh.2 j (List.mem_range.mpr hj))⟩
  match ci, h with
  | 0, h => cases h; exact key _ _ _ (by decide +kernel)
  | 1, h => cases h; exact key _ _ _ (by decide +kernel)
  | 2, h => cases h; exact key _ _ _ (by decide +kernel)
  | 3, h => cases h; exact key _ _ _ (by decide +kernel)
  | 4, h => cases h; exact key _ _ _ (by decide +kernel)
  | 5, h => cases h; exact key _ _ _ (by decide +kernel)
  | 6, h => cases h; exact key _ _ _ (by decide +kernel)
  | 7, h => cases h; exact key _ _ _ (by decide +kernel)
  | 8, h => cases h; exact key _ _ _ (by decide +kernel)
  | 9, h => cases h; exact key _ _ _ (by decide +kernel)
  | 10, h => cases h; exact key _ _ _ (by decide +kernel)
  | 11, h => cases h; exact key _ _ _ (by decide +kernel)
  | 12, h => cases h; exact key _ _ _ (by decide +kernel)
  | n + 13, h => exact absurd h (by simp [vwCl])
