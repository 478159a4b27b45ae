/-! calls out of the law -/
theorem wd_addr {sd : SD} {q : QT} {μ : Mm} {ν : Ml} {i : Nat} {x : Nat × va_E} (h : (wd sd q μ ν)[i]? = some x) : ∃ j ∈ sd.1, x.1 = q.2.2.1 j := by
  unfold wd at h
  rw [List.getElem?_map] at h
  obtain ⟨j, hj, e⟩ := Option.map_eq_some_iff.mp h
  exact ⟨j, List.mem_of_getElem? hj, by rw [← e]⟩
section LK
variable {l : Launch} {D : va_G} {cy : Nat → ClassId} {al alM : Nat → Nat} {z : ZT} {b L : Nat} {xs : Nat → Int32} {Q : State → Prop} {μ : Mm} {ν : Ml} {μ' : Mm} {ν' : Ml} {pc : Nat} {lv : List (Nat × Value)} {st : List Value}
theorem L_run {sd : SD} {q : QT} {v : Option Value} {μ1 : Mm} {ν1 : Ml} {ls : Array Slot} {H : Heap} {locs : List Loc} {st0 : List Value} {a : Array Value} (hlow : ∀ i ∈ sd.1, z.1.2.2.2.heap.size ≤ q.2.2.1 i) (hS : va_S (fun q => z.1.2.2.2.heap.size ≤ q) z.1.2.2.2.heap H locs)
    (hr : va_Run z.1.1 l z.1.2.1 z.1.2.2.1 z.1.2.2.2 z.2.1 z.2.2.1 z.2.2.2.1 z.2.2.2.2.1 z.2.2.2.2.2 H locs 600000 7302250 0 0 (F0 z.2.1 pc ls st0) st (QG sd q H.size v μ1 ν1 a) (AA sd q H.size))
    (k : ∀ (H1 : Heap) (locs1 : List Loc), va_P q.2.1 vwCl (wd sd q μ1 ν1) H1 → (∀ x : Nat, x < H.size → ¬ AA sd q H.size x → H1[x]? = H[x]?) → va_S (fun q => z.1.2.2.2.heap.size ≤ q) z.1.2.2.2.heap H1 locs1 → W z.1.1 l z.1.2.1 z.1.2.2.1 z.1.2.2.2 z.2.1 z.2.2.1 z.2.2.2.1 z.2.2.2.2.1 z.2.2.2.2.2 H1 locs1 600000 7302250 Q (F0 z.2.1 (pc + 3) ls (v.toList ++ st))) : W z.1.1 l z.1.2.1 z.1.2.2.1 z.1.2.2.2 z.2.1 z.2.2.1 z.2.2.2.1 z.2.2.2.2.1 z.2.2.2.2.2 H locs 600000 7302250 Q (F0 z.2.1 pc ls st0) := by
  intro T hT X
  obtain ⟨w, st₀, t, T', L', h0, X', hL, e1, e2, ⟨hv, hp, hz, hk⟩, stp⟩ := hr T hT X
  cases hv
  rw [h0] at hz hk
  have hS1 : va_S (fun q => z.1.2.2.2.heap.size ≤ q) z.1.2.2.2.heap T'.heap (locs ++ L') := by
    refine ⟨Nat.le_trans hS.1 (by rw [e1]; exact hz), fun x h1 h2 => ?_, fun x hx => ?_⟩
    · rw [e1, hk x (Nat.lt_of_lt_of_le h1 hS.1) (fun h => h2 (AA_al hlow hS.1 x h))]
      exact hS.2.1 x h1 h2
    · rcases List.mem_append.mp hx with h | h
      · exact hS.2.2 x h
      · exact AA_al hlow hS.1 _ (hL x h)
  obtain ⟨t2, a1, b1⟩ := k T'.heap (locs ++ L') (by rw [e1]; exact hp) (fun x h1 h2 => by rw [e1]; exact hk x h1 h2) hS1 T' rfl X'
  exact ⟨t2, stp t2 a1, b1⟩
theorem LX_call (C : LC l D cy al alM z b L xs) {y : MethodName} {cy' : ByteArray} {maxL n rk' index : Nat} {rt : Option FieldType} {As stk : List Value} {v : Option Value} {μ1 : Mm} {ν1 : Ml} (F : CF y cy' maxL rt n) (hcn : y.cls = "BesideTom") (hm : Cond.methodLink "BesideTomLaw" index y ∈ gW) (hi : Cond.instanceMethod y ∈ gW) (hse : Cond.selects "BesideTom" y y ∈ gW) (hc : Ct sdX (l, D, al, cy) y cy' maxL rt rk' (.ref (al 0) :: As) μ ν v μ1 ν1) (hrk : rk' ≤ 800) (hmx : maxL ≤ 80) (hst : stk = As.reverse ++ .ref (al 0) :: st) (hn : As.length = n) (hw : (st.map fun v => v.category).sum ≤ 8) (hd : decode code pc = .ok (.invokevirtual index, 3)) (k : LW l D cy al alM z Q μ1 ν1 μ' ν' (pc + 3) lv (v.toList ++ st)) : LW l D cy al alM z Q μ ν μ' ν' pc lv stk := by
  intro ls H locs hl hP hM hS
  subst hst
  have hse' : Cond.selects y.cls y y ∈ gW := hcn ▸ hse
  have cw := cwV (R := z.1.2.2.1) (s := z.1.2.2.2) (args := z.2.2.1) (mc := 0) (ms := 0) (own := "BesideTomLaw") (index := index) (C := y.cls) n C.2.2.2.2.1 (gG (fun _ h => h) F.1 [.methodLink "BesideTomLaw" index y, .instanceMethod y, .selects y.cls y y, .initialized y.cls] (by
    intro w hw
    rcases List.mem_cons.mp hw with rfl | hw
    · exact hm
    · rcases List.mem_cons.mp hw with rfl | hw
      · exact hi
      · rcases List.mem_cons.mp hw with rfl | hw
        · exact hse'
        · rw [List.mem_singleton.mp hw]; exact F.2.1)) rfl rfl rfl ⟨rfl, F.2.2.1.1, F.2.2.1.2, F.2.2.2⟩ (room_law C.2.2.2.2.2.1 hrk hmx)
  have hrcv : ∃ cell : Cell, H[al 0]? = some cell ∧ cell.vm.isStatics = false ∧ z.1.2.2.2.vm.findClass y.cls = some cell.cls := by
    rw [hcn]
    exact va_recv C.2.2.2.2.2.2.1 hP (ci := 11) (q0 := 0) rfl rfl
  have hpre : ∀ U : State, U.heap = H → z.1.2.2.2.WarmedH U.vm → va_Pc (.ref (al 0) :: As) (PG sdX (l, D, al, cy) H.size μ ν) (Value.ref (al 0) :: As).toArray U := fun U hU hW => by
    refine ⟨rfl, by rw [hU], by rw [hU]; exact hP, va_K.moved hW.alike C.2.2.2.2.2.2.1, ?_⟩
    rw [hU]
    exact extX_ok _ _ _ _ U _ H C.2.2.2.2.2.2.2.1 (AA_al (q := (l, D, al, cy)) C.2.2.2.2.2.2.2.2.2.2.2.2.1 hS.1) hW (fun a h1 h2 => hS.2.1 a h1 h2)
  have hcl : 600000 + 0 ≤ z.1.2.2.1.cells ∧ 7302250 + 0 ≤ z.1.2.2.1.slots := by
    rw [C.2.2.2.2.2.1]
    exact ⟨Nat.le_refl _, Nat.le_refl _⟩
  refine L_run (sd := sdX) (q := (l, D, al, cy)) C.2.2.2.2.2.2.2.2.2.2.2.2.1 hS (va_runV (As := As) (rest := st) (g := F0 z.2.1 pc ls (As.reverse ++ .ref (al 0) :: st)) ⟨C.1, C.2.1, C.2.2.1, C.2.2.2.1, C.2.2.2.2.1⟩ (hc H.size) cw ⟨PG_blind extX_ok, hrcv, hpre⟩ rfl hn hl.1 rfl (by show 2 * 0 + _ ≤ 8; omega) hd hcl) (fun H1 locs1 hP1 hk1 hS1 => ?_)
  have hkeep : ∀ (i : Nat) (x : Nat × va_E), (wd sdM (l, D, alM, cy) μ' ν')[i]? = some x → H1[x.1]? = H[x.1]? := fun i0 x hx => by
    obtain ⟨j, hj, e⟩ := wd_addr hx
    have hlt := (hM i0 x hx).lt
    refine hk1 x.1 hlt (fun h => ?_)
    rcases h with ⟨i, hi, e2⟩ | h
    · rw [e] at e2
      exact absurd e2 (fun e => C.2.2.2.2.2.2.2.2.2.2.2.2.2.2 i hi j hj e.symm)
    · exact absurd hlt (Nat.not_lt.mpr h)
  exact k ls H1 locs1 hl hP1 (hM.kept hkeep) hS1
theorem LM_call (C : LC l D cy al alM z b L xs) {y : MethodName} {cy' : ByteArray} {maxL n rk' index : Nat} {rt : Option FieldType} {As stk : List Value} {v : Option Value} {μ1 : Mm} {ν1 : Ml} (F : CF y cy' maxL rt n) (hcn : y.cls = "BesideTomModel") (hm : Cond.methodLink "BesideTomLaw" index y ∈ gW) (hi : Cond.instanceMethod y ∈ gW) (hse : Cond.selects "BesideTomModel" y y ∈ gW) (hc : Ct sdM (l, D, alM, cy) y cy' maxL rt rk' (.ref (alM 0) :: As) μ' ν' v μ1 ν1) (hrk : rk' ≤ 800) (hmx : maxL ≤ 80) (hst : stk = As.reverse ++ .ref (alM 0) :: st) (hn : As.length = n) (hw : (st.map fun v => v.category).sum ≤ 8) (hd : decode code pc = .ok (.invokevirtual index, 3)) (k : LW l D cy al alM z Q μ ν μ1 ν1 (pc + 3) lv (v.toList ++ st)) : LW l D cy al alM z Q μ ν μ' ν' pc lv stk := by
  intro ls H locs hl hP hM hS
  subst hst
  have hse' : Cond.selects y.cls y y ∈ gW := hcn ▸ hse
  have cw := cwV (R := z.1.2.2.1) (s := z.1.2.2.2) (args := z.2.2.1) (mc := 0) (ms := 0) (own := "BesideTomLaw") (index := index) (C := y.cls) n C.2.2.2.2.1 (gG (fun _ h => h) F.1 [.methodLink "BesideTomLaw" index y, .instanceMethod y, .selects y.cls y y, .initialized y.cls] (by
    intro w hw
    rcases List.mem_cons.mp hw with rfl | hw
    · exact hm
    · rcases List.mem_cons.mp hw with rfl | hw
      · exact hi
      · rcases List.mem_cons.mp hw with rfl | hw
        · exact hse'
        · rw [List.mem_singleton.mp hw]; exact F.2.1)) rfl rfl rfl ⟨rfl, F.2.2.1.1, F.2.2.1.2, F.2.2.2⟩ (room_law C.2.2.2.2.2.1 hrk hmx)
  have hrcv : ∃ cell : Cell, H[alM 0]? = some cell ∧ cell.vm.isStatics = false ∧ z.1.2.2.2.vm.findClass y.cls = some cell.cls := by
    rw [hcn]
    exact va_recv C.2.2.2.2.2.2.1 hM (ci := 12) (q0 := 0) rfl rfl
  have hpre : ∀ U : State, U.heap = H → z.1.2.2.2.WarmedH U.vm → va_Pc (.ref (alM 0) :: As) (PG sdM (l, D, alM, cy) H.size μ' ν') (Value.ref (alM 0) :: As).toArray U := fun U hU hW => by
    refine ⟨rfl, by rw [hU], by rw [hU]; exact hM, va_K.moved hW.alike C.2.2.2.2.2.2.1, ?_⟩
    rw [hU]
    exact trivial
  have hcl : 600000 + 0 ≤ z.1.2.2.1.cells ∧ 7302250 + 0 ≤ z.1.2.2.1.slots := by
    rw [C.2.2.2.2.2.1]
    exact ⟨Nat.le_refl _, Nat.le_refl _⟩
  refine L_run (sd := sdM) (q := (l, D, alM, cy)) C.2.2.2.2.2.2.2.2.2.2.2.2.2.1 hS (va_runV (As := As) (rest := st) (g := F0 z.2.1 pc ls (As.reverse ++ .ref (alM 0) :: st)) ⟨C.1, C.2.1, C.2.2.1, C.2.2.2.1, C.2.2.2.2.1⟩ (hc H.size) cw ⟨PG_blind extM_ok, hrcv, hpre⟩ rfl hn hl.1 rfl (by show 2 * 0 + _ ≤ 8; omega) hd hcl) (fun H1 locs1 hP1 hk1 hS1 => ?_)
  have hkeep : ∀ (i : Nat) (x : Nat × va_E), (wd sdX (l, D, al, cy) μ ν)[i]? = some x → H1[x.1]? = H[x.1]? := fun i0 x hx => by
    obtain ⟨j, hj, e⟩ := wd_addr hx
    have hlt := (hP i0 x hx).lt
    refine hk1 x.1 hlt (fun h => ?_)
    rcases h with ⟨i, hi, e2⟩ | h
    · rw [e] at e2
      exact absurd e2 (fun e => C.2.2.2.2.2.2.2.2.2.2.2.2.2.2 j hj i hi e)
    · exact absurd hlt (Nat.not_lt.mpr h)
  exact k ls H1 locs1 hl (hP.kept hkeep) hP1 hS1
end LK
