/-! new int[n][k]: the outer array, then its rows, one behind the other -/
theorem jx_outer (c : ClassId) (N h0 : Nat) : ∀ i : Nat, Jvm.Free.Multi.outerC c N h0 i = arrV c N (fun j => va_rf (if j < i then some (h0 + 1 + j) else none))
  | 0 => by
    show ({ cls := c, slots := Array.replicate N .null, vm := .none } : Cell) = _
    rw [arrV_new]
    refine congrArg (arrV c N) (funext fun j => ?_)
    rw [if_neg (Nat.not_lt_zero j)]
    rfl
  | i + 1 => by
    show (Jvm.Free.Multi.outerC c N h0 i).setSlot i (.ref (h0 + 1 + i)) = _
    rw [jx_outer c N h0 i, arrV_store]
    refine congrArg (arrV c N) (funext fun j => ?_)
    unfold updV
    by_cases e : j = i
    · subst e
      rw [if_pos rfl, if_pos (Nat.lt_succ_self j)]
      rfl
    · rw [if_neg e]
      show va_rf (if j < i then some (h0 + 1 + j) else none) = _
      by_cases h : j < i
      · rw [if_pos h, if_pos (Nat.lt_succ_of_lt h)]
      · rw [if_neg h, if_neg (by omega)]
section MNA
variable {p : Program} {l : Launch} {e : Env} {R : Room} {s : State} {m : MethodId} {args : Array Value} {below : List Frame} {meth : Method} {c : Code} {Q : State → Prop}
variable {bs : Nat} {rom : Nat → Nat} {rc : Nat → Nat × (Nat → Int32)} {D : va_G} {tc : Nat → ClassId} {n0 sl0 : Nat} {h : jxH} {H : Heap} {locs : List Loc} {cells slots : Nat}
theorem jx_mna {cc : ByteArray} {own ix pc n k : Nat} {ls : Array Slot} {rest : List Value} (hx : p.tables.exec = Jvm.exec) (hb : c.code = cc) (hown : s.vm.findClass (jx_c own) = some m.cls) (hcl : (Cond.classLink (jx_c own) ix ("[" ++ (FieldType.array .int).toString)).before args s = true) (harr : (Cond.arrayClass .int).before args s = true)
    (hWd : jx_Wd bs rom rc D tc s) (hM : jx_M bs rom D tc s n0 sl0 h H locs cells slots) (hn : n ≤ 5000) (hk : k ≤ 5000) (hc : cells + (1 + n) ≤ R.cells) (hs : slots + (n + n * k) ≤ R.slots) (hdg : decode cc pc = .ok (.multianewarray ix 2, 4))
    (kk : ∀ H1 : Heap, jx_M bs rom D tc s n0 sl0 (jx_inner h n k) H1 locs (cells + 1 + n) (slots + n + n * k) → W p l e R s m args below meth c H1 locs (cells + 1 + n) (slots + n + n * k) Q (F0 m (pc + 4) ls (.ref (bs + h.1) :: rest))) :
    W p l e R s m args below meth c H locs cells slots Q (F0 m pc ls (.int (nI k) :: .int (nI n) :: rest)) := by
  intro T hT Xs
  have en : (nI n).toNatClampNeg = n := nI_clamp (by omega)
  have ek : (nI k).toNatClampNeg = k := nI_clamp (by omega)
  have n1 : ¬ nI n < 0 := nI_pos (by omega)
  have k1 : ¬ nI k < 0 := nI_pos (by omega)
  obtain ⟨vm₁, cA, comp, -, fA, fC, -, -, X', step⟩ := Xs.multianewarray2F hx hown hcl (ty := .int) hWd.2.2.1.2.2.2.2 harr (g := F0 m pc ls (.int (nI k) :: .int (nI n) :: rest)) rfl (by rw [hb]; exact hdg) rfl n1 k1 (by rw [en]; omega) (by rw [ek]; show k * 4 ≤ _; omega) (by rw [ek]; omega) rfl rfl (by rw [en]; exact hc) (by rw [en, ek]; exact hs)
  rw [en, ek] at X' step
  have eA : s.vm.findClass ("[" ++ (FieldType.array .int).toString) = some (tc 8) := (hWd.1.2 8 _ rfl).2
  have eC : s.vm.findClass ("[" ++ FieldType.int.toString) = some (tc 0) := (hWd.1.2 0 _ rfl).2
  have eC : s.vm.findClass (FieldType.array .int).toString = some (tc 0) := eC
  have q1 : cA = tc 8 := Option.some.inj (fA.symm.trans eA)
  have q2 : comp = tc 0 := Option.some.inj (fC.symm.trans eC)
  subst q1
  subst q2
  obtain ⟨hR, hS, h1, h2, h3⟩ := hM
  have hTh : (T.setVm vm₁).heap = H := hT
  have hsz : H.size = bs + h.1 := hR.2.1
  obtain ⟨f1, f2, -, -⟩ := Jvm.Free.Multi.fill_facts (T.setVm vm₁) (tc 8) (tc 0) n k (defaultValue .int) n
  have hold : ∀ x : Nat, x < H.size → (Jvm.Free.Multi.fill (T.setVm vm₁) (tc 8) (tc 0) n k (defaultValue .int) n).heap[x]? = H[x]? := fun x hx => by
    have := Jvm.Free.Multi.fill_old (T.setVm vm₁) (tc 8) (tc 0) n k (defaultValue .int) (a := x) (by rw [hTh]; exact hx) n
    rw [hTh] at this
    exact this
  have hrow : ∀ j : Nat, j < n → (Jvm.Free.Multi.fill (T.setVm vm₁) (tc 8) (tc 0) n k (defaultValue .int) n).heap[H.size + 1 + j]? = some (Jvm.Free.Multi.innerC (tc 0) k (defaultValue .int)) := fun j hj => by
    have := Jvm.Free.Multi.fill_inner (T.setVm vm₁) (tc 8) (tc 0) n k (defaultValue .int) n j hj
    rw [hTh] at this
    exact this
  rw [hTh] at f1 f2
  generalize Jvm.Free.Multi.fill (T.setVm vm₁) (tc 8) (tc 0) n k (defaultValue .int) n = F at X' step f1 f2 hold hrow
  have hM1 : jx_M bs rom D tc s n0 sl0 (jx_inner h n k) F.heap locs (cells + 1 + n) (slots + n + n * k) := by
    refine ⟨⟨fun i q hq => ?_, by rw [f1, hsz]; show _ = bs + (h.1 + 1 + n); omega, fun i hi => ?_⟩, ⟨by rw [f1]; have := hS.1; omega, fun x x1 x2 => (hold x (Nat.lt_of_lt_of_le x1 hS.1)).trans (hS.2.1 x x1 x2), hS.2.2⟩, by show h.1 + 1 + n = _; omega, by show h.2.1 + n + n * k = _; omega, h3⟩
    · have hi : i < h.1 + 1 + n := by
        have := (List.getElem?_eq_some_iff.mp hq).1
        rw [jx_ws_len] at this
        exact this
      rw [jx_ws_get (h := jx_inner h n k) hi] at hq
      cases hq
      by_cases c1 : i < h.1
      · have he : (jx_inner h n k).2.2 i = h.2.2 i := by
          show (if i = h.1 then _ else if h.1 < i ∧ i ≤ h.1 + n then _ else h.2.2 i) = _
          rw [if_neg (by omega), if_neg (by omega)]
        rw [he]
        have h0 := hR.1 i _ (jx_ws_get c1)
        exact h0.kept (hold _ (by show bs + i < _; omega))
      · by_cases c2 : i = h.1
        · subst c2
          have he : (jx_inner h n k).2.2 h.1 = jxQ 8 n (fun i => if i < n then some (h.1 + 1 + i) else none) := if_pos rfl
          rw [he]
          show F.heap[bs + h.1]? = some (vp_cell (tc 8) (n, .inr (.inr (.inr (.inr (fun j => (if j < n then some (h.1 + 1 + j) else none).map (fun a => bs + a)))))))
          rw [← hsz, f2, jx_outer, vp_cell_q]
          refine congrArg (fun g => some (arrV (tc 8) n g)) (funext fun j => ?_)
          by_cases hj : j < n
          · rw [if_pos hj, if_pos hj]
            show va_rf (some (H.size + 1 + j)) = va_rf (some (bs + (h.1 + 1 + j)))
            rw [hsz]
            congr 2
            omega
          · rw [if_neg hj, if_neg hj]
            rfl
        · have he : (jx_inner h n k).2.2 i = jxI 0 k (fun _ => 0) := by
            show (if i = h.1 then _ else if h.1 < i ∧ i ≤ h.1 + n then _ else h.2.2 i) = _
            rw [if_neg c2, if_pos (by omega)]
          rw [he]
          show F.heap[bs + i]? = some (vp_cell (tc 0) (k, .inl (fun _ => 0)))
          have := hrow (i - h.1 - 1) (by omega)
          rw [show H.size + 1 + (i - h.1 - 1) = bs + i by omega] at this
          rw [this, vp_cell_i]
          exact congrArg some (arrV_new (tc 0) k (.int 0))
    · have hi : h.1 + 1 + n ≤ i := hi
      show (if i = h.1 then _ else if h.1 < i ∧ i ≤ h.1 + n then _ else h.2.2 i) = _
      rw [if_neg (by omega), if_neg (by omega)]
      exact hR.2.2 i (by omega)
  obtain ⟨t, a1, b1⟩ := kk F.heap hM1 F rfl X'
  refine ⟨t, step t ?_, b1⟩
  have e1 : T.heap.size = bs + h.1 := by rw [← hsz, hT]
  rw [e1]
  exact a1
end MNA
