/-! ends, calls -/
section RE
variable {β : Type} {sd : SD} {q : QT} {z : ZT} {cc : ByteArray} {own : String} {nL rk : Nat} {ret : Option FieldType} {φ : β → Option Value × Mm × Ml} {f : Option β} {μ : Mm} {ν : Ml} {pc : Nat} {lv : List (Nat × Value)} {st : List Value}
theorem R_iret (C : Ctx sd q z cc own nL rk (some .int)) {b : β} {v : Int32} (hφ : φ b = (some (.int v), μ, ν)) (hd : decode cc pc = .ok (.ireturn, 1)) : R sd q z nL φ (some b) μ ν pc lv [.int v] := by
  intro out ho ls H locs hl hP hS
  cases ho
  unfold Qz
  rw [hφ]
  exact W.iret C.1 C.2.1 C.2.2.2.2.2.2.2.2.2.1 (fun t ht _ => ⟨rfl, by rw [ht]; exact hP, hS.F ht⟩) hS.2.2 hd C.2.2.2.2.2.2.2.2.1
/-- a boolean's end: what is returned is 0 or 1, else nothing is told -/
def rZ (v : Int32) : Option Int32 := if v = 0 ∨ v = 1 then some v else none
theorem rZ_some {v a : Int32} (h : rZ v = some a) : (v = 0 ∨ v = 1) ∧ a = v := by
  unfold rZ at h
  by_cases hc : v = 0 ∨ v = 1
  · rw [if_pos hc] at h
    exact ⟨hc, (Option.some.inj h).symm⟩
  · rw [if_neg hc] at h
    cases h
theorem R_zret (C : Ctx sd q z cc own nL rk (some .boolean)) {b : β} {v : Int32} (hv : v = 0 ∨ v = 1) (hφ : φ b = (some (.int v), μ, ν)) (hd : decode cc pc = .ok (.ireturn, 1)) : R sd q z nL φ (some b) μ ν pc lv [.int v] := by
  intro out ho ls H locs hl hP hS
  cases ho
  unfold Qz
  rw [hφ]
  exact W.zret C.1 C.2.1 C.2.2.2.2.2.2.2.2.2.1 (by rcases hv with rfl | rfl <;> rfl) (fun t ht _ => ⟨rfl, by rw [ht]; exact hP, hS.F ht⟩) hS.2.2 hd C.2.2.2.2.2.2.2.2.1
theorem R_zretG (C : Ctx sd q z cc own nL rk (some .boolean)) {g : Int32 → Option β} {v : Int32} (hg : ∀ a, ∃ b, g a = some b ∧ φ b = (some (.int a), μ, ν)) (hd : decode cc pc = .ok (.ireturn, 1)) : R sd q z nL φ ((rZ v).bind g) μ ν pc lv [.int v] := by
  refine R_bind (fun a ha => ?_)
  obtain ⟨h1, rfl⟩ := rZ_some ha
  obtain ⟨b, h2, h3⟩ := hg a
  rw [h2]
  exact R_zret C h1 h3 hd
theorem R_vret (C : Ctx sd q z cc own nL rk none) {b : β} (hφ : φ b = (none, μ, ν)) (hd : decode cc pc = .ok (.return_, 1)) : R sd q z nL φ (some b) μ ν pc lv [] := by
  intro out ho ls H locs hl hP hS
  cases ho
  unfold Qz
  rw [hφ]
  exact W.vret C.1 C.2.1 C.2.2.2.2.2.2.2.2.2.1 (fun t ht _ => ⟨rfl, by rw [ht]; exact hP, hS.F ht⟩) hS.2.2 hd C.2.2.2.2.2.2.2.2.1
theorem R_lret (C : Ctx sd q z cc own nL rk (some .long)) {b : β} {v : Int64} (hφ : φ b = (some (.long v), μ, ν)) (hd : decode cc pc = .ok (.lreturn, 1)) : R sd q z nL φ (some b) μ ν pc lv [.long v] := by
  intro out ho ls H locs hl hP hS
  cases ho
  unfold Qz
  rw [hφ]
  exact W.lret C.1 C.2.1 C.2.2.2.2.2.2.2.2.2.1 (fun t ht _ => ⟨rfl, by rw [ht]; exact hP, hS.F ht⟩) hS.2.2 hd C.2.2.2.2.2.2.2.2.1
theorem R_aret (C : Ctx sd q z cc own nL rk ret) {n : String} (hr : ret = some (.object n)) {b : β} {v : Nat} (hφ : φ b = (some (.ref v), μ, ν)) (hd : decode cc pc = .ok (.areturn, 1)) : R sd q z nL φ (some b) μ ν pc lv [.ref v] := by
  intro out ho ls H locs hl hP hS
  cases ho
  subst hr
  unfold Qz
  rw [hφ]
  exact W.aret C.1 C.2.1 C.2.2.2.2.2.2.2.2.2.1 (Or.inl ⟨_, rfl⟩) (Or.inr ⟨_, rfl⟩) (fun t ht _ => ⟨rfl, by rw [ht]; exact hP, hS.F ht⟩) hS.2.2 hd C.2.2.2.2.2.2.2.2.1
/-- what a callee's name says -/
def CF (y : MethodName) (cc : ByteArray) (maxL : Nat) (ret : Option FieldType) (n : Nat) : Prop := Cond.code y cc maxL ret ∈ gW ∧ Cond.initialized y.cls ∈ gW ∧ (y.cls ≠ "java/lang/invoke/MethodHandle" ∧ y.cls ≠ "java/lang/invoke/VarHandle") ∧ (parseMethodDescriptor y.desc).map (fun d => d.parameters.length) = some n
theorem gG {Ts : List Cond} (hT : ∀ w ∈ gW, w ∈ Ts) {y : MethodName} {cc : ByteArray} {maxL : Nat} {ret : Option FieldType} (hc : Cond.code y cc maxL ret ∈ gW) (ws : List Cond) (hws : ∀ w ∈ ws, w ∈ gW) : GoodIn Ts (ws ++ wsG y cc maxL ret) := by
  intro w hw
  have h : w ∈ gW := by
    rcases List.mem_append.mp hw with h | h
    · exact hws w h
    · rcases List.mem_cons.mp h with h | h
      · rw [h]; exact hc
      · exact h
  exact ⟨hT w h, good_of_word (gW_good h)⟩
theorem PG_blind {sd : SD} {q : QT} {sz : Nat} {av : List Value} {μ : Mm} {ν : Ml} (hE : ExtOk sd.2.2) : FrameBlind (va_Pc av (PG sd q sz μ ν)) := fun a U g mk h => by
  obtain ⟨h1, h2, h3, h4, h5⟩ := h
  exact ⟨h1, h2, h3, va_K.moved (u := U) (U := U.calling g mk a) (Vm.Alike.refl U.vm) h4, hE _ _ _ U (U.calling g mk a) U.heap U.heap h5 (fun _ h => h) (State.WarmedH.refl U) (fun _ _ _ => rfl)⟩
theorem AA_in {sd : SD} {q : QT} {a b : Nat} (h : a ≤ b) : ∀ x, AA sd q b x → AA sd q a x := fun x hx => hx.elim Or.inl (fun k => Or.inr (Nat.le_trans h k))
theorem PG_of (C : Ctx sd q z cc own nL rk ret) {av : List Value} {H : Heap} {locs : List Loc} (hP : va_P q.2.1 vwCl (wd sd q μ ν) H) (hS : va_S (AA sd q z.1.2.2.2.heap.size) z.1.2.2.2.heap H locs) : ∀ U : State, U.heap = H → z.1.2.2.2.WarmedH U.vm → va_Pc av (PG sd q H.size μ ν) av.toArray U := by
  intro U hU hW
  refine ⟨rfl, by rw [hU], by rw [hU]; exact hP, va_K.moved hW.alike C.2.2.2.2.2.2.1, ?_⟩
  rw [hU]
  exact C.2.2.2.2.2.2.2.2.2.2.2.2 _ _ _ _ U _ H C.2.2.2.2.2.2.2.1 (AA_in hS.1) hW (fun a h1 h2 => hS.2.1 a h1 h2)
/-- any call, out of its run -/
theorem R_run (C : Ctx sd q z cc own nL rk ret) {v : Option Value} {μ' : Mm} {ν' : Ml} {ls : Array Slot} {H : Heap} {locs : List Loc} {st0 : List Value} {a : Array Value} {Q : State → Prop}
    (hS : va_S (AA sd q z.1.2.2.2.heap.size) z.1.2.2.2.heap H locs)
    (hr : va_Run z.1.1 q.1 z.1.2.1 z.1.2.2.1 z.1.2.2.2 z.2.1 z.2.2.1 z.2.2.2.1 z.2.2.2.2.1 z.2.2.2.2.2 H locs 0 0 0 0 (F0 z.2.1 pc ls st0) st (QG sd q H.size v μ' ν' a) (AA sd q H.size))
    (k : ∀ (H1 : Heap) (locs1 : List Loc), va_P q.2.1 vwCl (wd sd q μ' ν') H1 → va_S (AA sd q z.1.2.2.2.heap.size) z.1.2.2.2.heap H1 locs1 → Wz q z H1 locs1 Q (F0 z.2.1 (pc + 3) ls (v.toList ++ st))) : Wz q z H locs Q (F0 z.2.1 pc ls st0) := by
  intro T hT X
  obtain ⟨w, st₀, t, T', L, h0, X', hL, e1, e2, ⟨hv, hp, hz, hk⟩, stp⟩ := hr T hT X
  cases hv
  rw [h0] at hz hk
  have hS1 : va_S (AA sd q z.1.2.2.2.heap.size) z.1.2.2.2.heap T'.heap (locs ++ L) := by
    refine ⟨Nat.le_trans hS.1 (by rw [e1]; exact hz), fun x h1 h2 => ?_, fun x hx => ?_⟩
    · rw [e1, hk x (Nat.lt_of_lt_of_le h1 hS.1) (fun h => h2 (AA_in hS.1 x h))]
      exact hS.2.1 x h1 h2
    · rcases List.mem_append.mp hx with h | h
      · exact hS.2.2 x h
      · exact AA_in hS.1 _ (hL x h)
  obtain ⟨t2, a1, b1⟩ := k T'.heap (locs ++ L) (by rw [e1]; exact hp) hS1 T' rfl X'
  exact ⟨t2, stp t2 a1, b1⟩
theorem room_ok {R : Room} {rk rk' maxL : Nat} (hR : R = rmG rk) (h : rk' + 1 ≤ rk) (hm : maxL ≤ 80) : (rmG rk').frames + 1 ≤ R.frames ∧ 8 + (maxL + 11) + (rmG rk').locals ≤ R.locals := by
  subst hR
  show rk' + 1 ≤ rk ∧ 8 + (maxL + 11) + 100 * rk' ≤ 100 * rk
  omega
theorem cells_ok {R : Room} {rk : Nat} (hR : R = rmG rk) : 0 + 0 ≤ R.cells ∧ 0 + 0 ≤ R.slots := by
  subst hR
  exact ⟨Nat.le_refl _, Nat.le_refl _⟩
variable {y : MethodName} {cy' : ByteArray} {maxL n rk' index : Nat} {rt : Option FieldType} {As av : List Value} {v : Option Value} {μ' : Mm} {ν' : Ml} {stk : List Value}
/-- a static method of the frame's own class -/
theorem R_callS (C : Ctx sd q z cc own nL rk ret) (F : CF y cy' maxL rt n) (hm : Cond.methodLink own index y ∈ gW) (hs : Cond.static y ∈ gW) (hc : Ct sd q y cy' maxL rt rk' As μ ν v μ' ν') (hrk : rk' + 1 ≤ rk) (hmx : maxL ≤ 80) (hst : stk = As.reverse ++ st) (hn : As.length = n) (hw : (st.map fun v => v.category).sum ≤ 8) (hd : decode cc pc = .ok (.invokestatic index, 3)) (k : R sd q z nL φ f μ' ν' (pc + 3) lv (v.toList ++ st)) : R sd q z nL φ f μ ν pc lv stk := by
  intro out ho ls H locs hl hP hS
  subst hst
  have hE := C.2.2.2.2.2.2.2.2.2.2.2.2
  have cw := va_cwS (R := z.1.2.2.1) (s := z.1.2.2.2) (args := z.2.2.1) (mc := 0) (ms := 0) (own := own) (index := index) n C.2.2.2.2.1 (gG (fun _ h => h) F.1 [.methodLink own index y, .static y, .initialized y.cls] (by
    intro w hw
    rcases List.mem_cons.mp hw with rfl | hw
    · exact hm
    · rcases List.mem_cons.mp hw with rfl | hw
      · exact hs
      · rw [List.mem_singleton.mp hw]; exact F.2.1)) rfl rfl rfl ⟨F.2.2.1.1, F.2.2.1.2, F.2.2.2⟩ (room_ok C.2.2.2.2.2.1 hrk hmx)
  exact R_run C hS (va_runS ⟨C.1, C.2.1, C.2.2.1, C.2.2.2.1, C.2.2.2.2.1⟩ (hc H.size) cw ⟨PG_blind hE, PG_of C hP hS⟩ rfl hn hl.1 rfl (by show 2 * 0 + _ ≤ 8; omega) hd (cells_ok C.2.2.2.2.2.1)) (fun H1 locs1 hP1 hS1 => k out ho ls H1 locs1 hl hP1 hS1)
/-- a static method of a nest mate -/
theorem R_callSN (C : Ctx sd q z cc own nL rk ret) {host : String} (F : CF y cy' maxL rt n) (hm : va_Nw (.methodLinkNest own index y host) z.1.2.2.2) (hs : Cond.static y ∈ gW) (hc : Ct sd q y cy' maxL rt rk' As μ ν v μ' ν') (hrk : rk' + 1 ≤ rk) (hmx : maxL ≤ 80) (hst : stk = As.reverse ++ st) (hn : As.length = n) (hw : (st.map fun v => v.category).sum ≤ 8) (hd : decode cc pc = .ok (.invokestatic index, 3)) (k : R sd q z nL φ f μ' ν' (pc + 3) lv (v.toList ++ st)) : R sd q z nL φ f μ ν pc lv stk := by
  intro out ho ls H locs hl hP hS
  subst hst
  have hE := C.2.2.2.2.2.2.2.2.2.2.2.2
  have cw := va_cnB (R := z.1.2.2.1) (s := z.1.2.2.2) (args := z.2.2.1) (mc := 0) (ms := 0) (own := own) (index := index) n C.2.2.2.2.1 (gG (fun _ h => h) F.1 [] (fun w h => by cases h)) rfl rfl rfl hm (C.2.2.2.2.1 _ F.2.1) ⟨F.2.2.1.1, F.2.2.1.2, F.2.2.2⟩ (room_ok C.2.2.2.2.2.1 hrk hmx)
  exact R_run C hS (va_runSN ⟨C.1, C.2.1, C.2.2.1, C.2.2.2.1, C.2.2.2.2.1⟩ (hc H.size) ⟨cw, C.2.2.2.2.1 _ hs, trivial⟩ ⟨PG_blind hE, PG_of C hP hS⟩ rfl hn hl.1 rfl (by show 2 * 0 + _ ≤ 8; omega) hd (cells_ok C.2.2.2.2.2.1)) (fun H1 locs1 hP1 hS1 => k out ho ls H1 locs1 hl hP1 hS1)
theorem rcv_of (C : Ctx sd q z cc own nL rk ret) {b ci : Nat} {fs : List Value} {Cn : String} {T : u_T} {N : Nat} {H : Heap} (hP : va_P q.2.1 vwCl (wd sd q μ ν) H) (hb : b ∈ sd.1) (hcl : sd.2.1 q.2.2.1 q.2.2.2 b (μ b) (ν b) = .inr (ci, fs)) (hv : vwCl[ci]? = some (Cn, T, N)) : ∃ cell : Cell, H[q.2.2.1 b]? = some cell ∧ cell.vm.isStatics = false ∧ z.1.2.2.2.vm.findClass Cn = some cell.cls := by
  obtain ⟨i, hi, he⟩ := wd_get (q := q) (μ := μ) (ν := ν) hb
  rw [hcl] at he
  exact va_recv C.2.2.2.2.2.2.1 hP hv he
/-- a method of its own class, no other -/
theorem R_callV (C : Ctx sd q z cc own nL rk ret) {b ci : Nat} {fs : List Value} {Cn : String} {T : u_T} {N : Nat} (hb : b ∈ sd.1) (hcl : sd.2.1 q.2.2.1 q.2.2.2 b (μ b) (ν b) = .inr (ci, fs)) (hv : vwCl[ci]? = some (Cn, T, N)) (F : CF y cy' maxL rt n) (hcn : y.cls = Cn) (hm : Cond.methodLink own index y ∈ gW) (hi : Cond.instanceMethod y ∈ gW) (hse : Cond.selects Cn y y ∈ gW) (hc : Ct sd q y cy' maxL rt rk' (.ref (q.2.2.1 b) :: As) μ ν v μ' ν') (hrk : rk' + 1 ≤ rk) (hmx : maxL ≤ 80) (hst : stk = As.reverse ++ .ref (q.2.2.1 b) :: st) (hn : As.length = n) (hw : (st.map fun v => v.category).sum ≤ 8) (hd : decode cc pc = .ok (.invokevirtual index, 3)) (k : R sd q z nL φ f μ' ν' (pc + 3) lv (v.toList ++ st)) : R sd q z nL φ f μ ν pc lv stk := by
  intro out ho ls H locs hl hP hS
  subst hst
  subst hcn
  have hE := C.2.2.2.2.2.2.2.2.2.2.2.2
  have cw := cwV (R := z.1.2.2.1) (s := z.1.2.2.2) (args := z.2.2.1) (mc := 0) (ms := 0) (own := own) (index := index) (C := y.cls) n C.2.2.2.2.1 (gG (fun _ h => h) F.1 [.methodLink own index y, .instanceMethod y, .selects y.cls y y, .initialized y.cls] (by
    intro w hw
    rcases List.mem_cons.mp hw with rfl | hw
    · exact hm
    · rcases List.mem_cons.mp hw with rfl | hw
      · exact hi
      · rcases List.mem_cons.mp hw with rfl | hw
        · exact hse
        · rw [List.mem_singleton.mp hw]; exact F.2.1)) rfl rfl rfl ⟨rfl, F.2.2.1.1, F.2.2.1.2, F.2.2.2⟩ (room_ok C.2.2.2.2.2.1 hrk hmx)
  exact R_run C hS (va_runV ⟨C.1, C.2.1, C.2.2.1, C.2.2.2.1, C.2.2.2.2.1⟩ (hc H.size) cw ⟨PG_blind hE, rcv_of C hP hb hcl hv, PG_of C hP hS⟩ rfl hn hl.1 rfl (by show 2 * 0 + _ ≤ 8; omega) hd (cells_ok C.2.2.2.2.2.1)) (fun H1 locs1 hP1 hS1 => k out ho ls H1 locs1 hl hP1 hS1)
/-- a method that the class inherits or that overrides the one that is named -/
theorem R_callU (C : Ctx sd q z cc own nL rk ret) {b ci : Nat} {fs : List Value} {Cn owner : String} {T : u_T} {N : Nat} {x : MethodName} (hb : b ∈ sd.1) (hcl : sd.2.1 q.2.2.1 q.2.2.2 b (μ b) (ν b) = .inr (ci, fs)) (hv : vwCl[ci]? = some (Cn, T, N)) (F : CF y cy' maxL rt n) {b0 : ByteArray} {m0 : Nat} {r0 : Option FieldType} {n0 : Nat} (F0' : CF ⟨owner, x.name, x.desc⟩ b0 m0 r0 n0) (hx : (parseMethodDescriptor x.desc).map (fun d => d.parameters.length) = some n) (hm : Cond.methodLink own index x ∈ gW) (hsm : Cond.sameMethod x.cls owner x.name x.desc ∈ gW) (hi0 : Cond.instanceMethod ⟨owner, x.name, x.desc⟩ ∈ gW) (hse : Cond.selects Cn x y ∈ gW) (hi : Cond.instanceMethod y ∈ gW) (hc : Ct sd q y cy' maxL rt rk' (.ref (q.2.2.1 b) :: As) μ ν v μ' ν') (hrk : rk' + 1 ≤ rk) (hmx : maxL ≤ 80) (hst : stk = As.reverse ++ .ref (q.2.2.1 b) :: st) (hn : As.length = n) (hw : (st.map fun v => v.category).sum ≤ 8) (hd : decode cc pc = .ok (.invokevirtual index, 3)) (k : R sd q z nL φ f μ' ν' (pc + 3) lv (v.toList ++ st)) : R sd q z nL φ f μ ν pc lv stk := by
  intro out ho ls H locs hl hP hS
  subst hst
  have hE := C.2.2.2.2.2.2.2.2.2.2.2.2
  have cw := va_cwO (R := z.1.2.2.1) (s := z.1.2.2.2) (args := z.2.2.1) (mc := 0) (ms := 0) (own := own) (index := index) (C := Cn) (owner := owner) (x := x) (y := y) n C.2.2.2.2.1 (gG (fun _ h => h) F.1 [.methodLink own index x, .sameMethod x.cls owner x.name x.desc, .instanceMethod ⟨owner, x.name, x.desc⟩, .selects Cn x y, .instanceMethod y, .initialized y.cls] (by
    intro w hw
    rcases List.mem_cons.mp hw with rfl | hw
    · exact hm
    · rcases List.mem_cons.mp hw with rfl | hw
      · exact hsm
      · rcases List.mem_cons.mp hw with rfl | hw
        · exact hi0
        · rcases List.mem_cons.mp hw with rfl | hw
          · exact hse
          · rcases List.mem_cons.mp hw with rfl | hw
            · exact hi
            · rw [List.mem_singleton.mp hw]; exact F.2.1)) rfl rfl rfl F0'.1 ⟨F0'.2.2.1.1, F0'.2.2.1.2, hx⟩ (room_ok C.2.2.2.2.2.1 hrk hmx)
  exact R_run C hS (va_runU ⟨C.1, C.2.1, C.2.2.1, C.2.2.2.1, C.2.2.2.2.1⟩ (hc H.size) cw ⟨PG_blind hE, rcv_of C hP hb hcl hv, PG_of C hP hS⟩ rfl hn hl.1 rfl (by show 2 * 0 + _ ≤ 8; omega) hd (cells_ok C.2.2.2.2.2.1)) (fun H1 locs1 hP1 hS1 => k out ho ls H1 locs1 hl hP1 hS1)
/-- super.y(..) -/
theorem R_callSU (C : Ctx sd q z cc own nL rk ret) {b ci : Nat} {fs : List Value} {Cn : String} {T : u_T} {N : Nat} (hb : b ∈ sd.1) (hcl : sd.2.1 q.2.2.1 q.2.2.2 b (μ b) (ν b) = .inr (ci, fs)) (hv : vwCl[ci]? = some (Cn, T, N)) (F : CF y cy' maxL rt n) (hno : y.name ≠ "<init>") (hm : Cond.methodLink own index y ∈ gW) (hsm : Cond.sameMethod y.cls y.cls y.name y.desc ∈ gW) (hsup : Cond.superclass own y.cls ∈ gW) (hi : Cond.instanceMethod y ∈ gW) (hc : Ct sd q y cy' maxL rt rk' (.ref (q.2.2.1 b) :: As) μ ν v μ' ν') (hrk : rk' + 1 ≤ rk) (hmx : maxL ≤ 80) (hst : stk = As.reverse ++ .ref (q.2.2.1 b) :: st) (hn : As.length = n) (hw : (st.map fun v => v.category).sum ≤ 8) (hd : decode cc pc = .ok (.invokespecial index, 3)) (k : R sd q z nL φ f μ' ν' (pc + 3) lv (v.toList ++ st)) : R sd q z nL φ f μ ν pc lv stk := by
  intro out ho ls H locs hl hP hS
  subst hst
  have hE := C.2.2.2.2.2.2.2.2.2.2.2.2
  have cw := va_cwSU (R := z.1.2.2.1) (s := z.1.2.2.2) (args := z.2.2.1) (mc := 0) (ms := 0) (own := own) (index := index) (y := y) n C.2.2.2.2.1 (gG (fun _ h => h) F.1 [.methodLink own index y, .sameMethod y.cls y.cls y.name y.desc, .superclass own y.cls, .instanceMethod y, .initialized y.cls] (by
    intro w hw
    rcases List.mem_cons.mp hw with rfl | hw
    · exact hm
    · rcases List.mem_cons.mp hw with rfl | hw
      · exact hsm
      · rcases List.mem_cons.mp hw with rfl | hw
        · exact hsup
        · rcases List.mem_cons.mp hw with rfl | hw
          · exact hi
          · rw [List.mem_singleton.mp hw]; exact F.2.1)) rfl rfl rfl ⟨hno, F.2.2.2⟩ (room_ok C.2.2.2.2.2.1 hrk hmx)
  exact R_run C hS (va_runSU (C.2.2.2.2.2.2.1.1 ci _ hv).2 ⟨C.1, C.2.1, C.2.2.1, C.2.2.2.1, C.2.2.2.2.1⟩ (hc H.size) cw ⟨PG_blind hE, rcv_of C hP hb hcl hv, PG_of C hP hS⟩ rfl hn hl.1 rfl (by show 2 * 0 + _ ≤ 8; omega) hd (cells_ok C.2.2.2.2.2.1)) (fun H1 locs1 hP1 hS1 => k out ho ls H1 locs1 hl hP1 hS1)
theorem rm_fr {R : Room} {rk : Nat} (hR : R = rmG rk) (h : 1 ≤ rk) : 1 ≤ R.frames ∧ 8 + 40 ≤ R.locals ∧ 0 ≤ R.cells ∧ 0 ≤ R.slots := by
  subst hR
  refine ⟨h, ?_, Nat.zero_le _, Nat.zero_le _⟩
  show 48 ≤ 100 * rk
  omega
theorem R_max (C : Ctx sd q z cc own nL rk ret) (hm : Cond.methodLink own index Lib.Math.max.name ∈ gW) (hs : Cond.static Lib.Math.max.name ∈ gW) (hi : Cond.initialized "java/lang/Math" ∈ gW) (hco : Cond.code Lib.Math.max.name Lib.Math.max.code 2 (some .int) ∈ gW) (hrk : 1 ≤ rk) (hw : (st.map fun v => v.category).sum ≤ 8) {x y : Int32} (hd : decode cc pc = .ok (.invokestatic index, 3)) (k : R sd q z nL φ f μ ν (pc + 3) lv (.int (if x < y then y else x) :: st)) : R sd q z nL φ f μ ν pc lv (.int y :: .int x :: st) := by
  intro out ho ls H locs hl hP hS
  obtain ⟨r1, r2, r3, r4⟩ := rm_fr C.2.2.2.2.2.1 hrk
  exact va_mmax C.1 C.2.1 (C.2.2.1.trans hl.1.symm) C.2.2.2.1 (C.2.2.2.2.1 _ hm) (C.2.2.2.2.1 _ hs) (C.2.2.2.2.1 _ hi) (C.2.2.2.2.1 _ hco) r1 (by omega) r3 r4 hd (k out ho ls H locs hl hP hS)
theorem R_min (C : Ctx sd q z cc own nL rk ret) (hm : Cond.methodLink own index Lib.Math.min.name ∈ gW) (hs : Cond.static Lib.Math.min.name ∈ gW) (hi : Cond.initialized "java/lang/Math" ∈ gW) (hco : Cond.code Lib.Math.min.name Lib.Math.min.code 2 (some .int) ∈ gW) (hrk : 1 ≤ rk) (hw : (st.map fun v => v.category).sum ≤ 8) {x y : Int32} (hd : decode cc pc = .ok (.invokestatic index, 3)) (k : R sd q z nL φ f μ ν (pc + 3) lv (.int (if x > y then y else x) :: st)) : R sd q z nL φ f μ ν pc lv (.int y :: .int x :: st) := by
  intro out ho ls H locs hl hP hS
  obtain ⟨r1, r2, r3, r4⟩ := rm_fr C.2.2.2.2.2.1 hrk
  exact va_mmin C.1 C.2.1 (C.2.2.1.trans hl.1.symm) C.2.2.2.1 (C.2.2.2.2.1 _ hm) (C.2.2.2.2.1 _ hs) (C.2.2.2.2.1 _ hi) (C.2.2.2.2.1 _ hco) r1 (by omega) r3 r4 hd (k out ho ls H locs hl hP hS)
theorem nw_ok {a R : Nat} (h : a ≤ 8) (r : 8 + 40 ≤ R) : a + (nativeFrameWords "java/lang/System" "arraycopy" 5 + 11) ≤ R := by
  have h5 : nativeFrameWords "java/lang/System" "arraycopy" 5 ≤ 20 := by decide
  omega
theorem R_copyi (C : Ctx sd q z cc own nL rk ret) {a b n0 n1 : Nat} {sp dp n : Int32} {g : Mm → Option β} (hm : Cond.methodLink own index arraycopyName ∈ gW) (hna : Cond.native arraycopyName ∈ gW) (hs : Cond.static arraycopyName ∈ gW) (hi : Cond.initialized "java/lang/System" ∈ gW) (hrk : 1 ≤ rk) (hw : (st.map fun v => v.category).sum ≤ 8) (ha : a ∈ sd.1) (hb : b ∈ sd.1) (hca : ∀ h : Nat → Int32, sd.2.1 q.2.2.1 q.2.2.2 a h (ν a) = .inl (q.2.2.2 0, n0, .inl h)) (hcb : ∀ h : Nat → Int32, sd.2.1 q.2.2.1 q.2.2.2 b h (ν b) = .inl (q.2.2.2 0, n1, .inl h)) (hd : decode cc pc = .ok (.invokestatic index, 3)) (k : ∀ μ', R sd q z nL φ (g μ') μ' ν (pc + 3) lv st) : R sd q z nL φ ((cpI μ a n0 sp b n1 dp n).bind g) μ ν pc lv (.int n :: .int dp :: .ref (q.2.2.1 b) :: .int sp :: .ref (q.2.2.1 a) :: st) := by
  refine R_bind (fun m' hm' => ?_)
  obtain ⟨h1, rfl⟩ := gd_some hm'
  intro out ho ls H locs hl hP hS
  obtain ⟨i, hi', he⟩ := wd_get (q := q) (μ := μ) (ν := ν) ha
  obtain ⟨j, hj', he'⟩ := wd_get (q := q) (μ := μ) (ν := ν) hb
  have hg := C.2.2.2.2.2.2.2.2.2.2
  rw [hca] at he
  rw [hcb] at he'
  obtain ⟨r1, r2, r3, r4⟩ := rm_fr C.2.2.2.2.2.1 hrk
  simp only [not_or, Nat.not_lt] at h1
  refine va_copyi C.1 C.2.1 (C.2.2.1.trans hl.1.symm) C.2.2.2.1 (C.2.2.2.2.1 _ hm) (C.2.2.2.2.1 _ hna) (C.2.2.2.2.1 _ hs) (C.2.2.2.2.1 _ hi) C.2.2.2.2.2.2.1 hP (wd_D hg μ ν _) hS i j 0 0 he he' rfl rfl rfl h1.1 h1.2.1 h1.2.2.1 h1.2.2.2.1 h1.2.2.2.2 (fun _ _ => rfl) r1 (nw_ok hw r2) hd (fun H1 locs1 hP1 hD1 hS1 => ?_)
  rw [wd_put (μ' := fun c => if c = b then va_cpy (μ a) (μ b) sp.toNatClampNeg dp.toNatClampNeg n.toNatClampNeg else μ c) (ν' := ν) hg.1 hj' (fun c hc => if_neg hc) (fun _ _ => rfl) (by rw [if_pos rfl]; exact hcb _)] at hP1
  exact k _ out ho ls H1 locs1 hl hP1 hS1
theorem R_copyl (C : Ctx sd q z cc own nL rk ret) {a b n0 n1 : Nat} {sp dp n : Int32} {g : Ml → Option β} (hm : Cond.methodLink own index arraycopyName ∈ gW) (hna : Cond.native arraycopyName ∈ gW) (hs : Cond.static arraycopyName ∈ gW) (hi : Cond.initialized "java/lang/System" ∈ gW) (hrk : 1 ≤ rk) (hw : (st.map fun v => v.category).sum ≤ 8) (ha : a ∈ sd.1) (hb : b ∈ sd.1) (hca : ∀ h : Nat → Int64, sd.2.1 q.2.2.1 q.2.2.2 a (μ a) h = .inl (q.2.2.2 2, n0, .inr (.inl h))) (hcb : ∀ h : Nat → Int64, sd.2.1 q.2.2.1 q.2.2.2 b (μ b) h = .inl (q.2.2.2 2, n1, .inr (.inl h))) (hd : decode cc pc = .ok (.invokestatic index, 3)) (k : ∀ ν', R sd q z nL φ (g ν') μ ν' (pc + 3) lv st) : R sd q z nL φ ((cpL ν a n0 sp b n1 dp n).bind g) μ ν pc lv (.int n :: .int dp :: .ref (q.2.2.1 b) :: .int sp :: .ref (q.2.2.1 a) :: st) := by
  refine R_bind (fun m' hm' => ?_)
  obtain ⟨h1, rfl⟩ := gd_some hm'
  intro out ho ls H locs hl hP hS
  obtain ⟨i, hi', he⟩ := wd_get (q := q) (μ := μ) (ν := ν) ha
  obtain ⟨j, hj', he'⟩ := wd_get (q := q) (μ := μ) (ν := ν) hb
  have hg := C.2.2.2.2.2.2.2.2.2.2
  rw [hca] at he
  rw [hcb] at he'
  obtain ⟨r1, r2, r3, r4⟩ := rm_fr C.2.2.2.2.2.1 hrk
  simp only [not_or, Nat.not_lt] at h1
  refine va_copyl C.1 C.2.1 (C.2.2.1.trans hl.1.symm) C.2.2.2.1 (C.2.2.2.2.1 _ hm) (C.2.2.2.2.1 _ hna) (C.2.2.2.2.1 _ hs) (C.2.2.2.2.1 _ hi) C.2.2.2.2.2.2.1 hP (wd_D hg μ ν _) hS i j 2 2 he he' rfl rfl rfl h1.1 h1.2.1 h1.2.2.1 h1.2.2.2.1 h1.2.2.2.2 (fun _ _ => rfl) r1 (nw_ok hw r2) hd (fun H1 locs1 hP1 hD1 hS1 => ?_)
  rw [wd_put (μ' := μ) (ν' := fun c => if c = b then va_cpy (ν a) (ν b) sp.toNatClampNeg dp.toNatClampNeg n.toNatClampNeg else ν c) hg.1 hj' (fun _ _ => rfl) (fun c hc => if_neg hc) (by rw [if_pos rfl]; exact hcb _)] at hP1
  exact k _ out ho ls H1 locs1 hl hP1 hS1
theorem Ct_of {y : MethodName} (hy : plainName y.cls = true) (hg : GOk sd q) (k : ∀ z : ZT, Ctx sd q z cc y.cls nL rk ret → R sd q z nL φ f μ ν 0 (lv_args 0 av) []) (hlen : (lg_sl av).length ≤ nL) {out : β} (ho : f = some out) : Ct sd q y cc nL ret rk av μ ν (φ out).1 (φ out).2.1 (φ out).2.2 := by
  intro sz
  refine Met.ofW (cc := cc) (maxL := nL) (ret := ret) hy rfl ?_
  intro p e s m args below meth c s₁ B hml hv
  obtain ⟨rfl, hsz, hP, hK, hE⟩ := hv
  subst hsz
  have hts := atoms_spec (ws := wsG y cc nL ret) B.pre
  have C : Ctx sd q ((p, e, (headSpec (wsG y cc nL ret) (rmG rk)).room, s), (m, av.toArray, below, meth, c)) cc y.cls nL rk ret := ⟨B.exec, B.bytes, hml, findClass_of_methodNamed B.named, fun w hw => hts w (List.mem_cons_of_mem _ hw), rfl, hK, hE, B.notSynchronized, B.returns, hg⟩
  have hl := lv_entry av (n := nL) hlen
  have key := k _ C out ho _ s.heap [] hl hP va_S.rf
  rw [lg_entry_eq]
  exact key
end RE
