/-! constructors: worlds that grow -/
abbrev tyC (cy : Nat → ClassId) : List (ClassId × FieldType) := [(cy 0, .int), (cy 1, .byte), (cy 2, .long), (cy 3, .boolean), (cy 4, .array .byte), (cy 5, .array .long), (cy 6, .object "BesideTom$PupilKind")]
def nestC : List (String × Nat × MethodName) := [("BesideTom", 28, y_PK_init), ("BesideTom", 31, y_Talk_init), ("BesideTom$TalkerKind", 1, y_PK_init), ("BesideTom", 34, y_Quiet_init), ("BesideTom$QuietKind", 1, y_PK_init), ("BesideTom", 37, y_Short_init), ("BesideTom$ShortKind", 1, y_PK_init), ("BesideTom", 40, y_Tom_init), ("BesideTom$TomKind", 1, y_Talk_init), ("BesideTom", 43, y_Cork_init), ("BesideTom$CorkKind", 3, y_Quiet_init), ("BesideTom", 46, y_Told_init), ("BesideTom$ToldKind", 3, y_Short_init), ("BesideTom", 64, y_Rooms_init), ("BesideTom", 71, y_Trace_init)]
def castC : List String := ["BesideTom$TalkerKind", "BesideTom$QuietKind", "BesideTom$ShortKind", "BesideTom$TomKind", "BesideTom$CorkKind", "BesideTom$ToldKind"]
def exC (U : State) : Prop := AOa .byte U ∧ AOa .long U ∧ va_AO "BesideTom$PupilKind" U ∧ (∀ x ∈ nestC, va_Nw (.methodLinkNest x.1 x.2.1 x.2.2 "BesideTom") U) ∧ ∀ x ∈ castC, va_Nw (.castable x "BesideTom$PupilKind") U
theorem exC.warm {u U : State} (hW : u.WarmedH U.vm) (h : exC u) : exC U := ⟨h.1.moved hW.alike, h.2.1.moved hW.alike, h.2.2.1.moved hW.alike, fun x hx => va_Nw.warmM hW (h.2.2.2.1 x hx), fun x hx => va_Nw.warmC hW (h.2.2.2.2 x hx)⟩
theorem exC.same {u U : State} (h0 : u.vm = U.vm) (h : exC u) : exC U := ⟨h.1.moved (h0 ▸ Vm.Alike.refl u.vm), h.2.1.moved (h0 ▸ Vm.Alike.refl u.vm), h.2.2.1.moved (h0 ▸ Vm.Alike.refl u.vm), fun x hx => (h.2.2.2.1 x hx).same rfl h0, fun x hx => (h.2.2.2.2 x hx).same rfl h0⟩
def rmC (rk mc ms : Nat) : Room := { frames := rk, cells := mc, slots := ms, locals := 100 * rk }
def PN (D : va_G) (cy : Nat → ClassId) (sz : Nat) (ws : va_W) : State → Prop := fun U => U.heap.size = sz ∧ va_P D vwCl ws U.heap ∧ va_K D vwCl (tyC cy) U ∧ va_D (fun _ => True) ws ∧ exC U
def QN (D : va_G) (A : Nat → Prop) (ws' : (Nat → Nat) → va_W) : (Nat → Nat) → State → Prop := fun a t => va_P D vwCl (ws' a) t.heap ∧ va_D A (ws' a)
def Cn (l : Launch) (D : va_G) (cy : Nat → ClassId) (y : MethodName) (cc : ByteArray) (maxL rk mc ms : Nat) (av : List Value) (ws : va_W) (ws' : (Nat → Nat) → va_W) : Prop :=
  ∀ sz : Nat, Met l y (wsG y cc maxL none) (rmC rk mc ms) (va_Pc av (PN D cy sz ws)) (va_Qv (fun _ : Nat → Nat => True) (QN D (va_A ws sz) ws') (va_A ws sz)) mc ms (va_A ws sz)
def CtX (D : va_G) (cy : Nat → ClassId) (z : ZT) (cc : ByteArray) (own : String) (nL rk mc ms : Nat) (A : Nat → Prop) : Prop :=
  z.1.1.tables.exec = Jvm.exec ∧ z.2.2.2.2.2.code = cc ∧ z.2.2.2.2.2.maxLocals = nL ∧ z.1.2.2.2.vm.findClass own = some z.2.1.cls ∧ (∀ w ∈ gW, w.before z.2.2.1 z.1.2.2.2 = true) ∧ z.1.2.2.1 = rmC rk mc ms ∧ va_K D vwCl (tyC cy) z.1.2.2.2 ∧ exC z.1.2.2.2 ∧ z.2.2.2.2.1.locks = false ∧ z.2.2.2.2.1.sig.returnType = none ∧ z.2.2.2.2.1.name = "<init>" ∧ ∀ q, z.1.2.2.2.heap.size ≤ q → A q
def NW (l : Launch) (D : va_G) (z : ZT) (nL : Nat) (A : Nat → Prop) (Q : State → Prop) (k n : Nat) (ws : va_W) (pc : Nat) (lv : List (Nat × Value)) (st : List Value) : Prop :=
  ∀ (ls : Array Slot) (H : Heap) (locs : List Loc), lv_has ls nL lv → va_P D vwCl ws H → va_D A ws → va_S A z.1.2.2.2.heap H locs → W z.1.1 l z.1.2.1 z.1.2.2.1 z.1.2.2.2 z.2.1 z.2.2.1 z.2.2.2.1 z.2.2.2.2.1 z.2.2.2.2.2 H locs k n Q (F0 z.2.1 pc ls st)
def NQ (D : va_G) (z : ZT) (mc ms sz : Nat) (ws : va_W) (ws' : (Nat → Nat) → va_W) : State → Prop := MQ z.2.2.2.1 (va_Qv (fun _ : Nat → Nat => True) (QN D (va_A ws sz) ws') (va_A ws sz)) z.2.2.1 z.1.2.2.2 mc ms (va_A ws sz)
theorem Cn_of {l : Launch} {D : va_G} {cy : Nat → ClassId} {y : MethodName} {cc : ByteArray} {maxL rk mc ms : Nat} {av : List Value} {ws : va_W} {ws' : (Nat → Nat) → va_W} (hy : plainName y.cls = true) (hname : y.name = "<init>")
    (k : ∀ z : ZT, CtX D cy z cc y.cls maxL rk mc ms (va_A ws z.1.2.2.2.heap.size) → NW l D z maxL (va_A ws z.1.2.2.2.heap.size) (NQ D z mc ms z.1.2.2.2.heap.size ws ws') 0 0 ws 0 (lv_args 0 av) []) (hlen : (lg_sl av).length ≤ maxL) : Cn l D cy y cc maxL rk mc ms av ws ws' := by
  intro sz
  refine Met.ofW (cc := cc) (maxL := maxL) (ret := none) hy rfl ?_
  intro p e s m args below meth c s₁ B hml hv
  obtain ⟨rfl, hsz, hP, hK, hD, hE⟩ := hv
  subst hsz
  have hts := atoms_spec (ws := wsG y cc maxL none) B.pre
  have C : CtX D cy ((p, e, (headSpec (wsG y cc maxL none) (rmC rk mc ms)).room, s), (m, av.toArray, below, meth, c)) cc y.cls maxL rk mc ms (va_A ws s.heap.size) := ⟨B.exec, B.bytes, hml, findClass_of_methodNamed B.named, fun w hw => hts w (List.mem_cons_of_mem _ hw), rfl, hK, hE, B.notSynchronized, B.returns, ((name_of_methodNamed B.named B.method).1).trans hname, fun q h => Or.inr h⟩
  have hl := lv_entry av (n := maxL) hlen
  have key := k _ C _ s.heap [] hl hP hD.self va_S.rf
  rw [lg_entry_eq]
  exact key
