/-! an array of arrays is made at one go -/
def mOut (c : ClassId) (b n : Nat) : Nat → Cell
  | 0 => { cls := c, slots := Array.replicate n .null }
  | i + 1 => (mOut c b n i).setSlot i (.ref (b + 1 + i))
def mInn (c : ClassId) (k : Nat) (dv : Value) : Cell := { cls := c, slots := Array.replicate k dv }
def mSt (s : State) (c cI : ClassId) (n k : Nat) (dv : Value) : Nat → State
  | 0 => s.pushCell (mOut c s.heap.size n 0)
  | i + 1 => ((mSt s c cI n k dv i).pushCell (mInn cI k dv)).setCell s.heap.size (mOut c s.heap.size n (i + 1))
theorem mOut_f (c : ClassId) (b n : Nat) : ∀ i, (mOut c b n i).cls = c ∧ (mOut c b n i).vm = .none ∧ (mOut c b n i).slots.size = n
  | 0 => ⟨rfl, rfl, by simp [mOut]⟩
  | i + 1 => by
    obtain ⟨h1, h2, h3⟩ := mOut_f c b n i
    refine ⟨h1, h2, ?_⟩
    simp [mOut, Cell.setSlot, h3]
theorem mOut_at (c : ClassId) (b n : Nat) : ∀ i j, j < n → (mOut c b n i).slots[j]? = some (if j < i then .ref (b + 1 + j) else .null)
  | 0, j, hj => by
    rw [if_neg (Nat.not_lt_zero j)]
    simp [mOut, hj]
  | i + 1, j, hj => by
    have ih := mOut_at c b n i j hj
    obtain ⟨h1, h2, h3⟩ := mOut_f c b n i
    by_cases e : j = i
    · subst e
      rw [if_pos (Nat.lt_succ_self j)]
      simp [mOut, Cell.setSlot, h3, hj]
    · have e' : i ≠ j := fun q => e q.symm
      have : (mOut c b n (i + 1)).slots[j]? = (mOut c b n i).slots[j]? := by
        simp [mOut, Cell.setSlot, e']
      rw [this, ih]
      by_cases q : j < i
      · rw [if_pos q, if_pos (by omega)]
      · rw [if_neg q, if_neg (by omega)]
theorem push_lt (s : State) (x : Cell) {q : Nat} (h : q < s.heap.size) : (s.pushCell x).heap[q]? = s.heap[q]? := by
  rw [State.heap_pushCell, Array.getElem?_push, if_neg (by omega)]
theorem mSt_f (s : State) (c cI : ClassId) (n k : Nat) (dv : Value) : ∀ i, (mSt s c cI n k dv i).heap.size = s.heap.size + 1 + i ∧ (mSt s c cI n k dv i).heap[s.heap.size]? = some (mOut c s.heap.size n i) ∧ (mSt s c cI n k dv i).vm = s.vm ∧ (mSt s c cI n k dv i).slotsUsed = s.slotsUsed + n + i * k ∧ (∀ q, q < s.heap.size → (mSt s c cI n k dv i).heap[q]? = s.heap[q]?) ∧ ∀ j, j < i → (mSt s c cI n k dv i).heap[s.heap.size + 1 + j]? = some (mInn cI k dv)
  | 0 => by
    refine ⟨by simp [mSt], by simp [mSt], rfl, ?_, fun q hq => ?_, fun j hj => absurd hj (Nat.not_lt_zero j)⟩
    · simp [mSt, (mOut_f c s.heap.size n 0).2.2]
    · exact push_lt s _ hq
  | i + 1 => by
    obtain ⟨h1, h2, h3, h4, h5, h6⟩ := mSt_f s c cI n k dv i
    have hlt : s.heap.size < ((mSt s c cI n k dv i).pushCell (mInn cI k dv)).heap.size := by simp [h1]; omega
    refine ⟨?_, heapAt_setCell_self _ hlt, h3, ?_, fun q hq => ?_, fun j hj => ?_⟩
    · simp [mSt, h1]
      omega
    · have : (mSt s c cI n k dv (i + 1)).slotsUsed = (mSt s c cI n k dv i).slotsUsed + (mInn cI k dv).slots.size := rfl
      rw [this, h4, Nat.succ_mul]
      simp [mInn]
      omega
    · have e1 : (mSt s c cI n k dv (i + 1)).heap[q]? = ((mSt s c cI n k dv i).pushCell (mInn cI k dv)).heap[q]? := heapAt_setCell_ne (s := (mSt s c cI n k dv i).pushCell (mInn cI k dv)) (a := s.heap.size) (b := q) _ (Nat.ne_of_gt hq)
      rw [e1, push_lt _ _ (by omega)]
      exact h5 q hq
    · have e1 : (mSt s c cI n k dv (i + 1)).heap[s.heap.size + 1 + j]? = ((mSt s c cI n k dv i).pushCell (mInn cI k dv)).heap[s.heap.size + 1 + j]? := heapAt_setCell_ne (s := (mSt s c cI n k dv i).pushCell (mInn cI k dv)) (a := s.heap.size) (b := s.heap.size + 1 + j) _ (Nat.ne_of_lt (by omega))
      rw [e1]
      by_cases e : j = i
      · subst e
        rw [← h1]
        simp
      · rw [push_lt _ _ (by omega)]
        exact h6 j (by omega)
section MK
variable {E : CtlPost} {e : Env} {d : Bool} {acts : List Action} {s : State}
theorem wp_row {cI : ClassId} {kI : Class} {comp : ClassId} {ty : FieldType} {k : Int32} (hkI : s.vm.classes[cI]? = some kI) (hI : kI.kind = .array comp ty) (hk : ¬ k < 0) (hl : ¬ k.toNatClampNeg > e.platform.arrayLengthLimit) (hh : ¬ k.toNatClampNeg * componentBytes ty > e.platform.maxHeapBytes) (hc : s.heap.size < e.platform.maxCells) (hs : s.slotsUsed + k.toNatClampNeg ≤ e.platform.maxSlots) (hf : fits ty (defaultValue ty) = true) {Q : Addr → Pre} (hq : ∀ acts', Q s.heap.size d acts' (s.pushCell (mInn cI k.toNatClampNeg (defaultValue ty)))) : wp (Op.multianewarray.make cI [k]) Q E e d acts s := by
  rw [Op.multianewarray.make]
  simp only [wp_bind', W.ite, hk, if_false, wp_pure', W.theClass, hkI, hI, Option.some.injEq, exists_eq_left']
  exact W.newArray_of hkI hI hl hh hc hs hf hq
theorem wp_rows {c cI : ClassId} {kO kI : Class} {comp : ClassId} {tO ty : FieldType} {n k : Int32} (hkO : s.vm.classes[c]? = some kO) (hO : kO.kind = .array cI tO) (hr : ∀ a : Nat, fits tO (.ref a) = true) (hr0 : fits tO .null = true) (hkI : s.vm.classes[cI]? = some kI) (hI : kI.kind = .array comp ty) (hn : ¬ n < 0) (hk : ¬ k < 0) (hl : ¬ n.toNatClampNeg > e.platform.arrayLengthLimit) (hh : ¬ n.toNatClampNeg * componentBytes tO > e.platform.maxHeapBytes) (hl' : ¬ k.toNatClampNeg > e.platform.arrayLengthLimit) (hh' : ¬ k.toNatClampNeg * componentBytes ty > e.platform.maxHeapBytes) (hc : s.heap.size + 1 + n.toNatClampNeg ≤ e.platform.maxCells) (hs : s.slotsUsed + n.toNatClampNeg + n.toNatClampNeg * k.toNatClampNeg ≤ e.platform.maxSlots) (hf : fits ty (defaultValue ty) = true) {Q : Addr → Pre} (hq : ∀ d' acts', Q s.heap.size d' acts' (mSt s c cI n.toNatClampNeg k.toNatClampNeg (defaultValue ty) n.toNatClampNeg)) : wp (Op.multianewarray.make c [n, k]) Q E e d acts s := by
  generalize hN : n.toNatClampNeg = N at hl hh hc hs hq
  generalize hK : k.toNatClampNeg = K at hl' hh' hs hq
  rw [Op.multianewarray.make]
  simp only [wp_bind', W.ite, hn, if_false, wp_pure', W.theClass, hkO, hO, Option.some.injEq, exists_eq_left']
  rw [hN]
  have hfind : ([k].find? (· < 0)) = none := by simp [hk]
  refine W.newArray_of hkO hO hl hh (by omega) (by omega) hr0 (fun acts1 => ?_)
  simp only [hfind, ite_self, wp_bind', wp_pure', Std.Legacy.Range.forIn_eq_forIn_range']
  have hsz : ([0:N] : Std.Legacy.Range).size = N := by simp [Std.Legacy.Range.size]
  rw [hsz]
  show wp (forIn (List.range' 0 N 1) PUnit.unit _) _ E e d acts1 (mSt s c cI N K (defaultValue ty) 0)
  refine wp_forIn_inv (fun l t => ∃ i, i + l.length = N ∧ l = List.range' i l.length 1 ∧ t = mSt s c cI N K (defaultValue ty) i) _ _ ⟨0, by simp, by simp, rfl⟩ ?_ ?_
  · rintro x rest t d1 acts2 Q' ⟨i, hi, hl2, rfl⟩ hnx
    have hi' : i + (rest.length + 1) = N := hi
    have hl3 : x :: rest = i :: List.range' (i + 1) rest.length 1 := hl2
    obtain ⟨hx, hrest⟩ := List.cons.inj hl3
    subst hx
    obtain ⟨f1, f2, f3, f4, f5, f6⟩ := mSt_f s c cI N K (defaultValue ty) x
    obtain ⟨o1, o2, o3⟩ := mOut_f c s.heap.size N x
    have hlt : s.heap.size < (mSt s c cI N K (defaultValue ty) x).heap.size := by rw [f1]; omega
    have hm : x * K + K ≤ N * K := by
      have := Nat.mul_le_mul_right K (show x + 1 ≤ N by omega)
      rw [Nat.succ_mul] at this
      exact this
    simp only [wp_bind']
    refine wp_row (by rw [f3]; exact hkI) hI hk (by rw [hK]; exact hl') (by rw [hK]; exact hh') (by rw [f1]; omega) (by rw [f4, hK]; omega) hf (fun acts3 => ?_)
    rw [hK]
    refine ⟨mOut c s.heap.size N x, ?_, ?_, ?_, ?_, ?_⟩
    · rw [push_lt _ _ hlt]
      exact f2
    · rw [o2]
      exact fun q => by cases q
    · show x < (mOut c s.heap.size N x).slots.size
      have : x < N := by omega
      rw [o3]
      exact this
    · rw [o1, o2]
      simp [State.fitsSlot, State.slotType?, f3, hkO, hO, hr]
    · refine hnx _ _ _ ⟨x + 1, by omega, hrest, ?_⟩
      show _ = ((mSt s c cI N K (defaultValue ty) x).pushCell (mInn cI K (defaultValue ty))).setCell s.heap.size ((mOut c s.heap.size N x).setSlot x (.ref (s.heap.size + 1 + x)))
      rw [f1]
  · rintro t d1 acts2 ⟨i, hi, -, rfl⟩
    have : i = N := by simpa using hi
    subst this
    exact hq _ _
theorem multi_cold {index c : Nat} {vm' : Vm} {f : JFrame} {Q : Unit → Pre} (hs : s.topJava?.isSome) (hg : (Jvm.resolveClass f.method.cls index).Gives e.toSetting s.vm (.ok c) vm') (hr : vm'.classReady f.method.cls index c) (hsz : vm'.classes.size ≤ s.vm.classes.size := by no_record) : wp (Op.multianewarray.sem index 2) Q E e d acts (s.setTop f) ↔ wp (Op.multianewarray.sem index 2) Q E e d acts ((s.setVm vm').setTop f) := by
  simp only [Op.multianewarray.sem, wp_bind']
  exact W.resolveClassAt_transfer (s := s.setTop f) (State.method?_setTop f hs) hg hr
theorem multi_ready {index c : Nat} {f : JFrame} {n k : Int32} {rest : List Value} {Q : Unit → Pre} (hs : s.topJava?.isSome) (hr : s.vm.classReady f.method.cls index c) (hstack : f.stack = .int k :: .int n :: rest) (h : wp (Op.multianewarray.make c [n, k]) (fun a d1 acts1 s1 => ∃ g, s1.topJava? = some g ∧ Q () true acts1 (s1.setTop { g with stack := .ref a :: g.stack })) E e true acts (s.setTop { f with stack := rest })) : wp (Op.multianewarray.sem index 2) Q E e d acts (s.setTop f) := by
  simp only [Op.multianewarray.sem, wp_bind', W.resolveClassAt_ready (State.method?_setTop f hs) hr, popN, W.pop, State.topJava?_setTop' _ hs, Option.some.injEq, exists_eq_left', hstack, List.cons.injEq, exists_cons_eq, State.setTop_setTop, wp_pure']
  simp only [List.nil_append, List.cons_append, List.mapM_cons, List.mapM_nil, wp_bind', wp_pure', W.mark, W.pushRef]
  exact h
end MK
/-- the walk stands behind it -/
theorem mSt_X {p : Program} {l : Launch} {e : Env} {R : Room} {s T : State} {m : MethodId} {args : Array Value} {below : List Frame} {meth : Method} {c0 : Code} {locs : List Loc} {cells slots : Nat} (X : Stand p l e R s m args below meth c0 T locs cells slots) (c cI : ClassId) (n k : Nat) (dv : Value) : ∀ i, ∃ locs', (∀ q ∈ locs', q.base = T.heap.size) ∧ Stand p l e R s m args below meth c0 (mSt T c cI n k dv i) (locs ++ locs') (cells + 1 + i) (slots + n + i * k)
  | 0 => by
    have h := X.pushed (mOut c T.heap.size n 0)
    rw [(mOut_f c T.heap.size n 0).2.2] at h
    exact ⟨[], fun q hq => absurd hq List.not_mem_nil, by rw [List.append_nil, Nat.zero_mul]; exact h⟩
  | i + 1 => by
    obtain ⟨locs', h1, h2⟩ := mSt_X X c cI n k dv i
    obtain ⟨f1, f2, f3, f4, f5, f6⟩ := mSt_f T c cI n k dv i
    have hz : (mInn cI k dv).slots.size = k := by simp [mInn]
    have h := (h2.pushed (mInn cI k dv)).stored (a := T.heap.size) (cell := mOut c T.heap.size n i) (by rw [push_lt _ _ (by rw [f1]; omega)]; exact f2) i (.ref (T.heap.size + 1 + i))
    rw [hz] at h
    refine ⟨locs' ++ [⟨T.heap.size, i⟩], fun q hq => ?_, ?_⟩
    · rcases List.mem_append.mp hq with q1 | q1
      · exact h1 q q1
      · rw [List.mem_singleton.mp q1]
    · rw [← List.append_assoc, show cells + 1 + (i + 1) = cells + 1 + i + 1 by omega, show slots + n + (i + 1) * k = slots + n + i * k + k by rw [Nat.succ_mul]; omega]
      exact h
theorem mSt_top (s : State) (f : JFrame) (c cI : ClassId) (n k : Nat) (dv : Value) : ∀ i, mSt (s.setTop f) c cI n k dv i = (mSt s c cI n k dv i).setTop f
  | 0 => rfl
  | i + 1 => by
    have ih := mSt_top s f c cI n k dv i
    show ((mSt (s.setTop f) c cI n k dv i).pushCell (mInn cI k dv)).setCell s.heap.size (mOut c s.heap.size n (i + 1)) = _
    rw [ih]
    rfl
section MW
variable {p : Program} {l : Launch} {e : Env} {R : Room} {s : State} {m : MethodId} {args : Array Value} {below : List Frame} {meth : Method} {c : Code} {H : Heap} {locs : List Loc} {cells slots : Nat} {Q : State → Prop}
theorem W_multi {cc : ByteArray} (hexec : p.tables.exec = Jvm.exec) (hb : c.code = cc) {own nm : String} {index : Nat} (hown : s.vm.findClass own = some m.cls) (hclink : (Cond.classLink own index nm).before args s = true) {cO cI comp : ClassId} {kO kI : Class} {tO ty : FieldType} (hnm : s.vm.findClass nm = some cO) (hkO : s.vm.classes[cO]? = some kO) (hO : kO.kind = .array cI tO) (hr : ∀ a : Nat, fits tO (.ref a) = true) (hr0 : fits tO .null = true) (hkI : s.vm.classes[cI]? = some kI) (hI : kI.kind = .array comp ty) (hf : fits ty (defaultValue ty) = true)
    {g : JFrame} (hg : g.method = m) (hdg : decode cc g.pc = .ok (.multianewarray index 2, 4)) {n k : Int32} {rest : List Value} (hstack : g.stack = .int k :: .int n :: rest) (hn : ¬ n < 0) (hk : ¬ k < 0) (hbO : n.toNatClampNeg * componentBytes tO ≤ 536870912) (hbI : k.toNatClampNeg * componentBytes ty ≤ 536870912) (hl : n.toNatClampNeg ≤ 536870912) (hl' : k.toNatClampNeg ≤ 536870912) (hcells : cells + 1 + n.toNatClampNeg ≤ R.cells) (hslots : slots + n.toNatClampNeg + n.toNatClampNeg * k.toNatClampNeg ≤ R.slots)
    (kk : ∀ (H' : Heap) (locs' : List Loc), (∀ q ∈ locs', q.base = H.size) → H'.size = H.size + 1 + n.toNatClampNeg → H'[H.size]? = some (mOut cO H.size n.toNatClampNeg n.toNatClampNeg) → (∀ q, q < H.size → H'[q]? = H[q]?) → (∀ j, j < n.toNatClampNeg → H'[H.size + 1 + j]? = some (mInn cI k.toNatClampNeg (defaultValue ty))) →
      W p l e R s m args below meth c H' (locs ++ locs') (cells + 1 + n.toNatClampNeg) (slots + n.toNatClampNeg + n.toNatClampNeg * k.toNatClampNeg) Q { g with pc := g.pc + 4, stack := .ref H.size :: rest }) : W p l e R s m args below meth c H locs cells slots Q g := by
  intro T hT X
  subst hT; subst hb; subst hg
  have hpl : e.platform.magicAccessors = ({} : Platform).magicAccessors := by rw [X.admits.platform]
  obtain ⟨cc', hfcc, hcl⟩ := Cond.classLink_spec hown hclink e.platform hpl
  cases hnm.symm.trans hfcc
  obtain ⟨hg₁, hwarm₁, hready₁⟩ := State.classEntry (e := e) X.warmed hcl
  generalize T.vm.noted g.method.cls index (.cls cO) = vm₁ at hg₁ hwarm₁ hready₁
  have hal : s.vm.Alike vm₁ := hwarm₁.alike
  obtain ⟨kO₁, hkO₁, heO⟩ := hal.2.2 _ _ hkO
  obtain ⟨kI₁, hkI₁, heI⟩ := hal.2.2 _ _ hkI
  have X₁ := X.noted hwarm₁
  obtain ⟨locs', x1, x2⟩ := mSt_X X₁ cO cI n.toNatClampNeg k.toNatClampNeg (defaultValue ty) n.toNatClampNeg
  obtain ⟨f1, f2, f3, f4, f5, f6⟩ := mSt_f (T.setVm vm₁) cO cI n.toNatClampNeg k.toNatClampNeg (defaultValue ty) n.toNatClampNeg
  obtain ⟨hr1, hr2⟩ := X.roomAbove (a := 1 + n.toNatClampNeg) (b := n.toNatClampNeg + n.toNatClampNeg * k.toNatClampNeg) (by omega) (by omega)
  obtain ⟨t', a1, b1⟩ := kk _ locs' x1 f1 f2 f5 f6 _ rfl x2
  refine ⟨t', ?_, b1⟩
  refine Steps.instr (c := c) (by simpa using X.here) ?_
  simp only [hdg, hexec, wpRun]
  show wp (Op.multianewarray.sem index 2) _ _ e _ _ (T.setTop g)
  refine (multi_cold X.here.top hg₁ hready₁).mpr ?_
  refine multi_ready (s := T.setVm vm₁) X.here.top hready₁ hstack ?_
  have l1 := Launch.admits_arrayLengthLimit X.admits
  have l2 := Launch.admits_maxHeapBytes X.admits
  refine wp_rows (s := (T.setVm vm₁).setTop { g with stack := rest }) hkO₁ (by rw [heO]; exact hO) hr hr0 hkI₁ (by rw [heI]; exact hI) hn hk (by rw [l1]; omega) (by rw [l2]; omega) (by rw [l1]; omega) (by rw [l2]; omega) ?_ ?_ hf (fun d' acts' => ?_)
  · show T.heap.size + 1 + n.toNatClampNeg ≤ e.platform.maxCells
    omega
  · show T.slotsUsed + n.toNatClampNeg + n.toNatClampNeg * k.toNatClampNeg ≤ e.platform.maxSlots
    omega
  · refine ⟨{ g with stack := rest }, ?_, fun acts => ?_⟩
    · rw [mSt_top]
      exact State.topJava?_setTop' _ x2.here.top
    · rw [mSt_top, State.setTop_setTop, afterInstr_ok]
      exact a1
end MW
