/-! The walk of methods in a world whose objects never move: memory is a function of cells and places; R says that a frame does what a partial function tells. -/
abbrev Mm : Type := Nat → Nat → Int32
abbrev Ml : Type := Nat → Nat → Int64
def up2 (μ : Mm) (b k : Nat) (x : Int32) : Mm := fun c => if c = b then upd (μ b) k x else μ c
def upL (ν : Ml) (b k : Nat) (x : Int64) : Ml := fun c => if c = b then vp_updL (ν b) k x else ν c
/-- a side: its cells' numbers, and each cell by what memory holds; what else of the start it needs -/
abbrev SD : Type := List Nat × ((Nat → Nat) → (Nat → ClassId) → Nat → (Nat → Int32) → (Nat → Int64) → va_E) × ((Nat → Nat) → (Nat → Prop) → State → Heap → Prop)
/-- launch, classes' numbers, addresses of cells, array classes -/
abbrev QT : Type := Launch × va_G × (Nat → Nat) × (Nat → ClassId)
def wd (sd : SD) (q : QT) (μ : Mm) (ν : Ml) : va_W := sd.1.map (fun b => (q.2.2.1 b, sd.2.1 q.2.2.1 q.2.2.2 b (μ b) (ν b)))
def tyl (q : QT) : List (ClassId × FieldType) := [(q.2.2.2 0, .int), (q.2.2.2 1, .byte), (q.2.2.2 2, .long), (q.2.2.2 3, .boolean), (q.2.2.2 4, .array .byte), (q.2.2.2 5, .array .long), (q.2.2.2 6, .object "BesideTom$PupilKind")]
def AA (sd : SD) (q : QT) (sz : Nat) : Nat → Prop := fun a => (∃ b ∈ sd.1, a = q.2.2.1 b) ∨ sz ≤ a
def ExtOk (ext : (Nat → Nat) → (Nat → Prop) → State → Heap → Prop) : Prop := ∀ (al : Nat → Nat) (A B : Nat → Prop) (U V : State) (H H1 : Heap), ext al A U H → (∀ a, B a → A a) → U.WarmedH V.vm → (∀ a : Nat, a < H.size → ¬ A a → H1[a]? = H[a]?) → ext al B V H1
def GOk (sd : SD) (q : QT) : Prop := sd.1.Nodup ∧ (∀ i ∈ sd.1, ∀ j ∈ sd.1, q.2.2.1 i = q.2.2.1 j → i = j) ∧ ExtOk sd.2.2
def wsG (y : MethodName) (cc : ByteArray) (maxL : Nat) (ret : Option FieldType) : List Cond := .code y cc maxL ret :: gW
def rmG (rk : Nat) : Room := { frames := rk, cells := 0, slots := 0, locals := 100 * rk }
def QG (sd : SD) (q : QT) (sz : Nat) (v : Option Value) (μ : Mm) (ν : Ml) : Array Value → State → Outcome → State → Prop := fun _ st oc t => oc = .returned v ∧ va_P q.2.1 vwCl (wd sd q μ ν) t.heap ∧ va_F (AA sd q sz) st t
def PG (sd : SD) (q : QT) (sz : Nat) (μ : Mm) (ν : Ml) : State → Prop := fun U => U.heap.size = sz ∧ va_P q.2.1 vwCl (wd sd q μ ν) U.heap ∧ va_K q.2.1 vwCl (tyl q) U ∧ sd.2.2 q.2.2.1 (AA sd q sz) U U.heap
/-- the contract of a method: from memory μ ν with arguments av it returns v, and memory is μ' ν' -/
def Ct (sd : SD) (q : QT) (y : MethodName) (cc : ByteArray) (maxL : Nat) (ret : Option FieldType) (rk : Nat) (av : List Value) (μ : Mm) (ν : Ml) (v : Option Value) (μ' : Mm) (ν' : Ml) : Prop :=
  ∀ sz : Nat, Met q.1 y (wsG y cc maxL ret) (rmG rk) (va_Pc av (PG sd q sz μ ν)) (QG sd q sz v μ' ν') 0 0 (AA sd q sz)
/-- a frame: program, room and so on -/
abbrev ZT : Type := (Program × Env × Room × State) × (MethodId × Array Value × List Frame × Method × Code)
def Ctx (sd : SD) (q : QT) (z : ZT) (cc : ByteArray) (own : String) (nL rk : Nat) (ret : Option FieldType) : Prop :=
  z.1.1.tables.exec = Jvm.exec ∧ z.2.2.2.2.2.code = cc ∧ z.2.2.2.2.2.maxLocals = nL ∧ z.1.2.2.2.vm.findClass own = some z.2.1.cls ∧ (∀ w ∈ gW, w.before z.2.2.1 z.1.2.2.2 = true) ∧ z.1.2.2.1 = rmG rk ∧ va_K q.2.1 vwCl (tyl q) z.1.2.2.2 ∧ sd.2.2 q.2.2.1 (AA sd q z.1.2.2.2.heap.size) z.1.2.2.2 z.1.2.2.2.heap ∧ z.2.2.2.2.1.locks = false ∧ z.2.2.2.2.1.sig.returnType = ret ∧ GOk sd q
def Wz (q : QT) (z : ZT) (H : Heap) (locs : List Loc) (Q : State → Prop) (g : JFrame) : Prop := W z.1.1 q.1 z.1.2.1 z.1.2.2.1 z.1.2.2.2 z.2.1 z.2.2.1 z.2.2.2.1 z.2.2.2.2.1 z.2.2.2.2.2 H locs 0 0 Q g
def Qz (sd : SD) (q : QT) (z : ZT) (o : Option Value × Mm × Ml) : State → Prop := MQ z.2.2.2.1 (QG sd q z.1.2.2.2.heap.size o.1 o.2.1 o.2.2) z.2.2.1 z.1.2.2.2 0 0 (AA sd q z.1.2.2.2.heap.size)
def R {β : Type} (sd : SD) (q : QT) (z : ZT) (nL : Nat) (φ : β → Option Value × Mm × Ml) (f : Option β) (μ : Mm) (ν : Ml) (pc : Nat) (lv : List (Nat × Value)) (st : List Value) : Prop :=
  ∀ out : β, f = some out → ∀ (ls : Array Slot) (H : Heap) (locs : List Loc), lv_has ls nL lv → va_P q.2.1 vwCl (wd sd q μ ν) H → va_S (AA sd q z.1.2.2.2.heap.size) z.1.2.2.2.heap H locs → Wz q z H locs (Qz sd q z (φ out)) (F0 z.2.1 pc ls st)
theorem wd_get {sd : SD} {q : QT} {μ : Mm} {ν : Ml} {b : Nat} (h : b ∈ sd.1) : ∃ i : Nat, sd.1[i]? = some b ∧ (wd sd q μ ν)[i]? = some (q.2.2.1 b, sd.2.1 q.2.2.1 q.2.2.2 b (μ b) (ν b)) := by
  obtain ⟨i, hi⟩ := List.getElem?_of_mem h
  exact ⟨i, hi, by unfold wd; rw [List.getElem?_map, hi]; rfl⟩
theorem wd_put {sd : SD} {q : QT} {μ μ' : Mm} {ν ν' : Ml} {b i : Nat} (hn : sd.1.Nodup) (hi : sd.1[i]? = some b) (hμ : ∀ c, c ≠ b → μ' c = μ c) (hν : ∀ c, c ≠ b → ν' c = ν c) {e : va_E} (he : sd.2.1 q.2.2.1 q.2.2.2 b (μ' b) (ν' b) = e) : (wd sd q μ ν).set i (q.2.2.1 b, e) = wd sd q μ' ν' := by
  subst he
  unfold wd
  apply List.ext_getElem?
  intro j
  have hl : i < sd.1.length := (List.getElem?_eq_some_iff.mp hi).1
  by_cases hj : j = i
  · subst hj
    rw [List.getElem?_set_self (by rw [List.length_map]; exact hl), List.getElem?_map, hi]
    rfl
  · rw [List.getElem?_set_ne (Ne.symm hj), List.getElem?_map, List.getElem?_map]
    cases hc : sd.1[j]? with
    | none => rfl
    | some c =>
      have hcb : c ≠ b := by
        intro hE
        subst hE
        have hl2 : j < sd.1.length := (List.getElem?_eq_some_iff.mp hc).1
        have := (List.getElem?_inj hl2 hn).mp (hc.trans hi.symm)
        exact hj this
      show some (q.2.2.1 c, sd.2.1 q.2.2.1 q.2.2.2 c (μ c) (ν c)) = some (q.2.2.1 c, sd.2.1 q.2.2.1 q.2.2.2 c (μ' c) (ν' c))
      rw [hμ c hcb, hν c hcb]
theorem wd_D {sd : SD} {q : QT} (hg : GOk sd q) (μ : Mm) (ν : Ml) (sz : Nat) : va_D (AA sd q sz) (wd sd q μ ν) := by
  unfold wd
  refine ⟨fun i j x y hi hj hxy => ?_, fun k x hk => ?_⟩
  · rw [List.getElem?_map] at hi hj
    cases h1 : sd.1[i]? with
    | none => rw [h1] at hi; cases hi
    | some b =>
      cases h2 : sd.1[j]? with
      | none => rw [h2] at hj; cases hj
      | some c =>
        rw [h1] at hi
        rw [h2] at hj
        cases hi
        cases hj
        have hbc := hg.2.1 b (List.mem_of_getElem? h1) c (List.mem_of_getElem? h2) hxy
        subst hbc
        exact (List.getElem?_inj (List.getElem?_eq_some_iff.mp h1).1 hg.1).mp (h1.trans h2.symm)
  · rw [List.getElem?_map] at hk
    cases h1 : sd.1[k]? with
    | none => rw [h1] at hk; cases hk
    | some b =>
      rw [h1] at hk
      cases hk
      exact Or.inl ⟨b, List.mem_of_getElem? h1, rfl⟩
theorem up2_ne {μ : Mm} {b k : Nat} {x : Int32} : ∀ c, c ≠ b → up2 μ b k x c = μ c := fun c h => if_neg h
theorem up2_eq {μ : Mm} {b k : Nat} {x : Int32} : up2 μ b k x b = upd (μ b) k x := if_pos rfl
theorem upL_ne {μ : Ml} {b k : Nat} {x : Int64} : ∀ c, c ≠ b → upL μ b k x c = μ c := fun c h => if_neg h
theorem upL_eq {μ : Ml} {b k : Nat} {x : Int64} : upL μ b k x b = vp_updL (μ b) k x := if_pos rfl
section RL
variable {β : Type} {sd : SD} {q : QT} {z : ZT} {cc : ByteArray} {own : String} {nL rk : Nat} {ret : Option FieldType} {φ : β → Option Value × Mm × Ml} {f : Option β} {μ : Mm} {ν : Ml} {pc : Nat} {lv : List (Nat × Value)} {st : List Value}
theorem R_none : R sd q z nL φ none μ ν pc lv st := fun _ h => by cases h
theorem R_eq {g : Option β} (h : f = g) (k : R sd q z nL φ g μ ν pc lv st) : R sd q z nL φ f μ ν pc lv st := h ▸ k
theorem R_sub {lv' : List (Nat × Value)} (ks : List Nat) (h : lv_pick lv ks = lv') (k : R sd q z nL φ f μ ν pc lv' st) : R sd q z nL φ f μ ν pc lv st := fun out ho ls H locs hl => k out ho ls H locs (lv_sub hl ks h)
theorem R_iconst (C : Ctx sd q z cc own nL rk ret) {n : Int} {v : Int32} (hd : decode cc pc = .ok (.iconst n, 1)) (hv : Int32.ofInt n = v) (k : R sd q z nL φ f μ ν (pc + 1) lv (.int v :: st)) : R sd q z nL φ f μ ν pc lv st := fun out ho ls H locs hl hP hS => lv_iconst C.1 C.2.1 hd hv (k out ho ls H locs hl hP hS)
theorem R_bipush (C : Ctx sd q z cc own nL rk ret) {n : Int} {v : Int32} (hd : decode cc pc = .ok (.bipush n, 2)) (hv : (Int8.ofInt n).toInt32 = v) (k : R sd q z nL φ f μ ν (pc + 2) lv (.int v :: st)) : R sd q z nL φ f μ ν pc lv st := fun out ho ls H locs hl hP hS => lv_bipush C.1 C.2.1 hd hv (k out ho ls H locs hl hP hS)
theorem R_sipush (C : Ctx sd q z cc own nL rk ret) {n : Int} {v : Int32} (hd : decode cc pc = .ok (.sipush n, 3)) (hv : (Int16.ofInt n).toInt32 = v) (k : R sd q z nL φ f μ ν (pc + 3) lv (.int v :: st)) : R sd q z nL φ f μ ν pc lv st := fun out ho ls H locs hl hP hS => lv_sipush C.1 C.2.1 hd hv (k out ho ls H locs hl hP hS)
theorem R_lconst (C : Ctx sd q z cc own nL rk ret) {n : Fin 2} {v : Int64} (hd : decode cc pc = .ok (.lconst n, 1)) (hv : Int64.ofNat (n : Nat) = v) (k : R sd q z nL φ f μ ν (pc + 1) lv (.long v :: st)) : R sd q z nL φ f μ ν pc lv st := fun out ho ls H locs hl hP hS => lv_lconst C.1 C.2.1 hd hv (k out ho ls H locs hl hP hS)
theorem R_ldc (C : Ctx sd q z cc own nL rk ret) {index : Nat} {v : Int32} (hw : Cond.constant own index v ∈ gW) (hd : decode cc pc = .ok (.ldc index, 2)) (k : R sd q z nL φ f μ ν (pc + 2) lv (.int v :: st)) : R sd q z nL φ f μ ν pc lv st := fun out ho ls H locs hl hP hS => W.ldc C.1 C.2.1 C.2.2.2.1 (C.2.2.2.2.1 _ hw) rfl hd (k out ho ls H locs hl hP hS)
theorem R_ldc2 (C : Ctx sd q z cc own nL rk ret) {index : Nat} {v : Int64} (hw : Cond.constantLong own index v ∈ gW) (hd : decode cc pc = .ok (.ldc2_w index, 3)) (k : R sd q z nL φ f μ ν (pc + 3) lv (.long v :: st)) : R sd q z nL φ f μ ν pc lv st := fun out ho ls H locs hl hP hS => W.ldc2 C.1 C.2.1 C.2.2.2.1 (C.2.2.2.2.1 _ hw) rfl hd (k out ho ls H locs hl hP hS)
theorem R_iload_n (C : Ctx sd q z cc own nL rk ret) {k' : Fin 4} {i : Nat} {x : Int32} (j : Nat) (hd : decode cc pc = .ok (.iload_n k', 1)) (hi : (k' : Nat) = i) (hj : lv[j]? = some (i, .int x)) (k : R sd q z nL φ f μ ν (pc + 1) lv (.int x :: st)) : R sd q z nL φ f μ ν pc lv st := fun out ho ls H locs hl hP hS => lv_iload_n C.1 C.2.1 hd hi (lv_at hl j hj) (k out ho ls H locs hl hP hS)
theorem R_iload (C : Ctx sd q z cc own nL rk ret) {i : Nat} {x : Int32} (j : Nat) (hd : decode cc pc = .ok (.iload i, 2)) (hj : lv[j]? = some (i, .int x)) (k : R sd q z nL φ f μ ν (pc + 2) lv (.int x :: st)) : R sd q z nL φ f μ ν pc lv st := fun out ho ls H locs hl hP hS => lv_iload C.1 C.2.1 hd (lv_at hl j hj) (k out ho ls H locs hl hP hS)
theorem R_lload_n (C : Ctx sd q z cc own nL rk ret) {k' : Fin 4} {i : Nat} {x : Int64} (j : Nat) (hd : decode cc pc = .ok (.lload_n k', 1)) (hi : (k' : Nat) = i) (hj : lv[j]? = some (i, .long x)) (k : R sd q z nL φ f μ ν (pc + 1) lv (.long x :: st)) : R sd q z nL φ f μ ν pc lv st := fun out ho ls H locs hl hP hS => lv_lload_n C.1 C.2.1 hd hi (lv_at hl j hj) (k out ho ls H locs hl hP hS)
theorem R_lload (C : Ctx sd q z cc own nL rk ret) {i : Nat} {x : Int64} (j : Nat) (hd : decode cc pc = .ok (.lload i, 2)) (hj : lv[j]? = some (i, .long x)) (k : R sd q z nL φ f μ ν (pc + 2) lv (.long x :: st)) : R sd q z nL φ f μ ν pc lv st := fun out ho ls H locs hl hP hS => lv_lload C.1 C.2.1 hd (lv_at hl j hj) (k out ho ls H locs hl hP hS)
theorem R_aload_n (C : Ctx sd q z cc own nL rk ret) {k' : Fin 4} {i : Nat} {x : Nat} (j : Nat) (hd : decode cc pc = .ok (.aload_n k', 1)) (hi : (k' : Nat) = i) (hj : lv[j]? = some (i, .ref x)) (k : R sd q z nL φ f μ ν (pc + 1) lv (.ref x :: st)) : R sd q z nL φ f μ ν pc lv st := fun out ho ls H locs hl hP hS => lv_aload_n C.1 C.2.1 hd hi (lv_at hl j hj) (k out ho ls H locs hl hP hS)
theorem R_aload (C : Ctx sd q z cc own nL rk ret) {i : Nat} {x : Nat} (j : Nat) (hd : decode cc pc = .ok (.aload i, 2)) (hj : lv[j]? = some (i, .ref x)) (k : R sd q z nL φ f μ ν (pc + 2) lv (.ref x :: st)) : R sd q z nL φ f μ ν pc lv st := fun out ho ls H locs hl hP hS => lv_aload C.1 C.2.1 hd (lv_at hl j hj) (k out ho ls H locs hl hP hS)
theorem R_istore_n (C : Ctx sd q z cc own nL rk ret) {k' : Fin 4} {i : Nat} {x : Int32} {lv' : List (Nat × Value)} (hd : decode cc pc = .ok (.istore_n k', 1)) (hi : (k' : Nat) = i) (hn : i < nL) (hl' : (i, Value.int x) :: lv.filter (fun q => !(q.1 == i) && !(q.1 + 1 == i && q.2.category == 2)) = lv') (k : R sd q z nL φ f μ ν (pc + 1) lv' st) : R sd q z nL φ f μ ν pc lv (.int x :: st) := fun out ho ls H locs hl hP hS => lv_istore_n C.1 C.2.1 hd hi hl hn hl' (fun ls' h' => k out ho ls' H locs h' hP hS)
theorem R_istore (C : Ctx sd q z cc own nL rk ret) {i : Nat} {x : Int32} {lv' : List (Nat × Value)} (hd : decode cc pc = .ok (.istore i, 2)) (hn : i < nL) (hl' : (i, Value.int x) :: lv.filter (fun q => !(q.1 == i) && !(q.1 + 1 == i && q.2.category == 2)) = lv') (k : R sd q z nL φ f μ ν (pc + 2) lv' st) : R sd q z nL φ f μ ν pc lv (.int x :: st) := fun out ho ls H locs hl hP hS => lv_istore C.1 C.2.1 hd hl hn hl' (fun ls' h' => k out ho ls' H locs h' hP hS)
theorem R_lstore_n (C : Ctx sd q z cc own nL rk ret) {k' : Fin 4} {i : Nat} {x : Int64} {lv' : List (Nat × Value)} (hd : decode cc pc = .ok (.lstore_n k', 1)) (hi : (k' : Nat) = i) (hn : i + 1 < nL) (hl' : (i, Value.long x) :: lv.filter (fun q => !(q.1 == i) && (!(q.1 == i + 1) && !(q.1 + 1 == i && q.2.category == 2))) = lv') (k : R sd q z nL φ f μ ν (pc + 1) lv' st) : R sd q z nL φ f μ ν pc lv (.long x :: st) := fun out ho ls H locs hl hP hS => lv_lstore_n C.1 C.2.1 hd hi hl hn hl' (fun ls' h' => k out ho ls' H locs h' hP hS)
theorem R_iinc (C : Ctx sd q z cc own nL rk ret) {i : Nat} {n : Int} {x v : Int32} {lv' : List (Nat × Value)} (j : Nat) (hd : decode cc pc = .ok (.iinc i n, 3)) (hj : lv[j]? = some (i, .int x)) (hv : x + Int32.ofInt n = v) (hn : i < nL) (hl' : (i, Value.int v) :: lv.filter (fun q => !(q.1 == i) && !(q.1 + 1 == i && q.2.category == 2)) = lv') (k : R sd q z nL φ f μ ν (pc + 3) lv' st) : R sd q z nL φ f μ ν pc lv st := fun out ho ls H locs hl hP hS => lv_iinc C.1 C.2.1 hd hl hj hv hn hl' (fun ls' h' => k out ho ls' H locs h' hP hS)
theorem R_dup (C : Ctx sd q z cc own nL rk ret) {va : Value} (hd : decode cc pc = .ok (.dup, 1)) (hva : va.category = 1) (k : R sd q z nL φ f μ ν (pc + 1) lv (va :: va :: st)) : R sd q z nL φ f μ ν pc lv (va :: st) := fun out ho ls H locs hl hP hS => lv_dup C.1 C.2.1 hd hva (k out ho ls H locs hl hP hS)
theorem R_pop (C : Ctx sd q z cc own nL rk ret) {va : Value} (hd : decode cc pc = .ok (.pop, 1)) (hva : va.category = 1) (k : R sd q z nL φ f μ ν (pc + 1) lv st) : R sd q z nL φ f μ ν pc lv (va :: st) := fun out ho ls H locs hl hP hS => lv_pop C.1 C.2.1 hd hva (k out ho ls H locs hl hP hS)
theorem R_dup_x1 (C : Ctx sd q z cc own nL rk ret) {va vb : Value} (hd : decode cc pc = .ok (.dup_x1, 1)) (hva : va.category = 1) (hvb : vb.category = 1) (k : R sd q z nL φ f μ ν (pc + 1) lv (va :: vb :: va :: st)) : R sd q z nL φ f μ ν pc lv (va :: vb :: st) := fun out ho ls H locs hl hP hS => lv_dup_x1 C.1 C.2.1 hd hva hvb (k out ho ls H locs hl hP hS)
theorem R_dup_x2 (C : Ctx sd q z cc own nL rk ret) {va vb vd : Value} (hd : decode cc pc = .ok (.dup_x2, 1)) (hva : va.category = 1) (hvb : vb.category = 1) (hvd : vd.category = 1) (k : R sd q z nL φ f μ ν (pc + 1) lv (va :: vb :: vd :: va :: st)) : R sd q z nL φ f μ ν pc lv (va :: vb :: vd :: st) := fun out ho ls H locs hl hP hS => lv_dup_x2 C.1 C.2.1 hd hva hvb hvd (k out ho ls H locs hl hP hS)
theorem R_dup2 (C : Ctx sd q z cc own nL rk ret) {va vb : Value} (hd : decode cc pc = .ok (.dup2, 1)) (hva : va.category = 1) (hvb : vb.category = 1) (k : R sd q z nL φ f μ ν (pc + 1) lv (va :: vb :: va :: vb :: st)) : R sd q z nL φ f μ ν pc lv (va :: vb :: st) := fun out ho ls H locs hl hP hS => lv_dup2_11 C.1 C.2.1 hd hva hvb (k out ho ls H locs hl hP hS)
theorem R_goto (C : Ctx sd q z cc own nL rk ret) {off : Int} {tgt : Nat} (hd : decode cc pc = .ok (.goto off, 3)) (ht : (pc : Int) + off = (tgt : Int)) (k : R sd q z nL φ f μ ν tgt lv st) : R sd q z nL φ f μ ν pc lv st := fun out ho ls H locs hl hP hS => lv_goto C.1 C.2.1 hd ht (k out ho ls H locs hl hP hS)
theorem R_iadd (C : Ctx sd q z cc own nL rk ret) {x y : Int32} (hd : decode cc pc = .ok (.iadd, 1)) (k : R sd q z nL φ f μ ν (pc + 1) lv (.int (x + y) :: st)) : R sd q z nL φ f μ ν pc lv (.int y :: .int x :: st) := fun out ho ls H locs hl hP hS => lv_iadd C.1 C.2.1 hd (k out ho ls H locs hl hP hS)
theorem R_isub (C : Ctx sd q z cc own nL rk ret) {x y : Int32} (hd : decode cc pc = .ok (.isub, 1)) (k : R sd q z nL φ f μ ν (pc + 1) lv (.int (x - y) :: st)) : R sd q z nL φ f μ ν pc lv (.int y :: .int x :: st) := fun out ho ls H locs hl hP hS => lv_isub C.1 C.2.1 hd (k out ho ls H locs hl hP hS)
theorem R_imul (C : Ctx sd q z cc own nL rk ret) {x y : Int32} (hd : decode cc pc = .ok (.imul, 1)) (k : R sd q z nL φ f μ ν (pc + 1) lv (.int (x * y) :: st)) : R sd q z nL φ f μ ν pc lv (.int y :: .int x :: st) := fun out ho ls H locs hl hP hS => lv_imul C.1 C.2.1 hd (k out ho ls H locs hl hP hS)
theorem R_iand (C : Ctx sd q z cc own nL rk ret) {x y : Int32} (hd : decode cc pc = .ok (.iand, 1)) (k : R sd q z nL φ f μ ν (pc + 1) lv (.int (x &&& y) :: st)) : R sd q z nL φ f μ ν pc lv (.int y :: .int x :: st) := fun out ho ls H locs hl hP hS => lv_iand C.1 C.2.1 hd (k out ho ls H locs hl hP hS)
theorem R_ior (C : Ctx sd q z cc own nL rk ret) {x y : Int32} (hd : decode cc pc = .ok (.ior, 1)) (k : R sd q z nL φ f μ ν (pc + 1) lv (.int (x ||| y) :: st)) : R sd q z nL φ f μ ν pc lv (.int y :: .int x :: st) := fun out ho ls H locs hl hP hS => lv_ior C.1 C.2.1 hd (k out ho ls H locs hl hP hS)
theorem R_ixor (C : Ctx sd q z cc own nL rk ret) {x y : Int32} (hd : decode cc pc = .ok (.ixor, 1)) (k : R sd q z nL φ f μ ν (pc + 1) lv (.int (x ^^^ y) :: st)) : R sd q z nL φ f μ ν pc lv (.int y :: .int x :: st) := fun out ho ls H locs hl hP hS => lv_ixor C.1 C.2.1 hd (k out ho ls H locs hl hP hS)
theorem R_ishl (C : Ctx sd q z cc own nL rk ret) {x y : Int32} (hd : decode cc pc = .ok (.ishl, 1)) (k : R sd q z nL φ f μ ν (pc + 1) lv (.int (x <<< (y &&& 31)) :: st)) : R sd q z nL φ f μ ν pc lv (.int y :: .int x :: st) := fun out ho ls H locs hl hP hS => lv_ishl C.1 C.2.1 hd (k out ho ls H locs hl hP hS)
theorem R_ishr (C : Ctx sd q z cc own nL rk ret) {x y : Int32} (hd : decode cc pc = .ok (.ishr, 1)) (k : R sd q z nL φ f μ ν (pc + 1) lv (.int (x >>> (y &&& 31)) :: st)) : R sd q z nL φ f μ ν pc lv (.int y :: .int x :: st) := fun out ho ls H locs hl hP hS => lv_ishr C.1 C.2.1 hd (k out ho ls H locs hl hP hS)
theorem R_ladd (C : Ctx sd q z cc own nL rk ret) {x y : Int64} (hd : decode cc pc = .ok (.ladd, 1)) (k : R sd q z nL φ f μ ν (pc + 1) lv (.long (x + y) :: st)) : R sd q z nL φ f μ ν pc lv (.long y :: .long x :: st) := fun out ho ls H locs hl hP hS => lv_ladd C.1 C.2.1 hd (k out ho ls H locs hl hP hS)
theorem R_lsub (C : Ctx sd q z cc own nL rk ret) {x y : Int64} (hd : decode cc pc = .ok (.lsub, 1)) (k : R sd q z nL φ f μ ν (pc + 1) lv (.long (x - y) :: st)) : R sd q z nL φ f μ ν pc lv (.long y :: .long x :: st) := fun out ho ls H locs hl hP hS => lv_lsub C.1 C.2.1 hd (k out ho ls H locs hl hP hS)
theorem R_lor (C : Ctx sd q z cc own nL rk ret) {x y : Int64} (hd : decode cc pc = .ok (.lor, 1)) (k : R sd q z nL φ f μ ν (pc + 1) lv (.long (x ||| y) :: st)) : R sd q z nL φ f μ ν pc lv (.long y :: .long x :: st) := fun out ho ls H locs hl hP hS => lv_lor C.1 C.2.1 hd (k out ho ls H locs hl hP hS)
theorem R_land (C : Ctx sd q z cc own nL rk ret) {x y : Int64} (hd : decode cc pc = .ok (.land, 1)) (k : R sd q z nL φ f μ ν (pc + 1) lv (.long (x &&& y) :: st)) : R sd q z nL φ f μ ν pc lv (.long y :: .long x :: st) := fun out ho ls H locs hl hP hS => lv_land C.1 C.2.1 hd (k out ho ls H locs hl hP hS)
theorem R_iushr (C : Ctx sd q z cc own nL rk ret) {x y : Int32} (hd : decode cc pc = .ok (.iushr, 1)) (k : R sd q z nL φ f μ ν (pc + 1) lv (.int (x.toUInt32 >>> (y.toUInt32 &&& Int32.toUInt32 31)).toInt32 :: st)) : R sd q z nL φ f μ ν pc lv (.int y :: .int x :: st) := fun out ho ls H locs hl hP hS => lv_iushr C.1 C.2.1 hd rfl (k out ho ls H locs hl hP hS)
theorem R_lshl (C : Ctx sd q z cc own nL rk ret) {x : Int64} {y : Int32} (hd : decode cc pc = .ok (.lshl, 1)) (k : R sd q z nL φ f μ ν (pc + 1) lv (.long (x <<< (y.toInt64 &&& 63)) :: st)) : R sd q z nL φ f μ ν pc lv (.int y :: .long x :: st) := fun out ho ls H locs hl hP hS => lv_lshl C.1 C.2.1 hd rfl (k out ho ls H locs hl hP hS)
theorem R_ineg (C : Ctx sd q z cc own nL rk ret) {x : Int32} (hd : decode cc pc = .ok (.ineg, 1)) (k : R sd q z nL φ f μ ν (pc + 1) lv (.int (-x) :: st)) : R sd q z nL φ f μ ν pc lv (.int x :: st) := fun out ho ls H locs hl hP hS => lv_ineg C.1 C.2.1 hd (k out ho ls H locs hl hP hS)
theorem R_i2l (C : Ctx sd q z cc own nL rk ret) {x : Int32} (hd : decode cc pc = .ok (.i2l, 1)) (k : R sd q z nL φ f μ ν (pc + 1) lv (.long x.toInt64 :: st)) : R sd q z nL φ f μ ν pc lv (.int x :: st) := fun out ho ls H locs hl hP hS => lv_i2l C.1 C.2.1 hd rfl (k out ho ls H locs hl hP hS)
theorem R_l2i (C : Ctx sd q z cc own nL rk ret) {x : Int64} (hd : decode cc pc = .ok (.l2i, 1)) (k : R sd q z nL φ f μ ν (pc + 1) lv (.int x.toInt32 :: st)) : R sd q z nL φ f μ ν pc lv (.long x :: st) := fun out ho ls H locs hl hP hS => lv_l2i C.1 C.2.1 hd rfl (k out ho ls H locs hl hP hS)
theorem R_i2b (C : Ctx sd q z cc own nL rk ret) {x : Int32} (hd : decode cc pc = .ok (.i2b, 1)) (k : R sd q z nL φ f μ ν (pc + 1) lv (.int x.toInt8.toInt32 :: st)) : R sd q z nL φ f μ ν pc lv (.int x :: st) := fun out ho ls H locs hl hP hS => lv_i2b C.1 C.2.1 hd rfl (k out ho ls H locs hl hP hS)
theorem R_i2s (C : Ctx sd q z cc own nL rk ret) {x : Int32} (hd : decode cc pc = .ok (.i2s, 1)) (k : R sd q z nL φ f μ ν (pc + 1) lv (.int x.toInt16.toInt32 :: st)) : R sd q z nL φ f μ ν pc lv (.int x :: st) := fun out ho ls H locs hl hP hS => lv_i2s C.1 C.2.1 hd rfl (k out ho ls H locs hl hP hS)
theorem R_i2c (C : Ctx sd q z cc own nL rk ret) {x : Int32} (hd : decode cc pc = .ok (.i2c, 1)) (k : R sd q z nL φ f μ ν (pc + 1) lv (.int (x.toUInt32 % 65536).toInt32 :: st)) : R sd q z nL φ f μ ν pc lv (.int x :: st) := fun out ho ls H locs hl hP hS => lv_i2c C.1 C.2.1 hd rfl (k out ho ls H locs hl hP hS)
theorem R_lcmp (C : Ctx sd q z cc own nL rk ret) {x y : Int64} (hd : decode cc pc = .ok (.lcmp, 1)) (k : R sd q z nL φ f μ ν (pc + 1) lv (.int (lg_cmp x y) :: st)) : R sd q z nL φ f μ ν pc lv (.long y :: .long x :: st) := fun out ho ls H locs hl hP hS => W.lcmp C.1 C.2.1 hd (k out ho ls H locs hl hP hS)
theorem R_idiv (C : Ctx sd q z cc own nL rk ret) {x y : Int32} (hd : decode cc pc = .ok (.idiv, 1)) (hy : ¬ y = 0) (k : R sd q z nL φ f μ ν (pc + 1) lv (.int (x / y) :: st)) : R sd q z nL φ f μ ν pc lv (.int y :: .int x :: st) := fun out ho ls H locs hl hP hS => lv_idiv C.1 C.2.1 hd hy (k out ho ls H locs hl hP hS)
theorem R_idivG (C : Ctx sd q z cc own nL rk ret) {x y : Int32} (hd : decode cc pc = .ok (.idiv, 1)) (k : R sd q z nL φ f μ ν (pc + 1) lv (.int (x / y) :: st)) : R sd q z nL φ (if y = 0 then none else f) μ ν pc lv (.int y :: .int x :: st) := by
  by_cases hy : y = 0
  · rw [if_pos hy]
    exact R_none
  · rw [if_neg hy]
    exact R_idiv C hd hy k
theorem R_irem (C : Ctx sd q z cc own nL rk ret) {x y : Int32} (hd : decode cc pc = .ok (.irem, 1)) (hy : ¬ y = 0) (k : R sd q z nL φ f μ ν (pc + 1) lv (.int (x - x / y * y) :: st)) : R sd q z nL φ f μ ν pc lv (.int y :: .int x :: st) := fun out ho ls H locs hl hP hS => lv_irem C.1 C.2.1 hd hy (k out ho ls H locs hl hP hS)
theorem R_iremG (C : Ctx sd q z cc own nL rk ret) {x y : Int32} (hd : decode cc pc = .ok (.irem, 1)) (k : R sd q z nL φ f μ ν (pc + 1) lv (.int (x - x / y * y) :: st)) : R sd q z nL φ (if y = 0 then none else f) μ ν pc lv (.int y :: .int x :: st) := by
  by_cases hy : y = 0
  · rw [if_pos hy]
    exact R_none
  · rw [if_neg hy]
    exact R_irem C hd hy k
theorem R_ite {c : Prop} [Decidable c] {f1 f2 : Option β} (k1 : c → R sd q z nL φ f1 μ ν pc lv st) (k2 : ¬ c → R sd q z nL φ f2 μ ν pc lv st) : R sd q z nL φ (if c then f1 else f2) μ ν pc lv st := by
  by_cases h : c
  · rw [if_pos h]
    exact k1 h
  · rw [if_neg h]
    exact k2 h
theorem R_if_eq (C : Ctx sd q z cc own nL rk ret) {x : Int32} {off : Int} {tgt : Nat} {f1 f2 : Option β} (hd : decode cc pc = .ok (.ifCond .eq off, 3)) (ht : (pc : Int) + off = (tgt : Int)) (k1 : R sd q z nL φ f1 μ ν tgt lv st) (k2 : R sd q z nL φ f2 μ ν (pc + 3) lv st) : R sd q z nL φ (if x = 0 then f1 else f2) μ ν pc lv (.int x :: st) := R_ite (fun h => fun out ho ls H locs hl hP hS => lv_if_eq C.1 C.2.1 hd ht (fun _ => k1 out ho ls H locs hl hP hS) (fun h2 => absurd h h2)) (fun h => fun out ho ls H locs hl hP hS => lv_if_eq C.1 C.2.1 hd ht (fun h2 => absurd h2 h) (fun _ => k2 out ho ls H locs hl hP hS))
theorem R_if_lt (C : Ctx sd q z cc own nL rk ret) {x : Int32} {off : Int} {tgt : Nat} {f1 f2 : Option β} (hd : decode cc pc = .ok (.ifCond .lt off, 3)) (ht : (pc : Int) + off = (tgt : Int)) (k1 : R sd q z nL φ f1 μ ν tgt lv st) (k2 : R sd q z nL φ f2 μ ν (pc + 3) lv st) : R sd q z nL φ (if x < 0 then f1 else f2) μ ν pc lv (.int x :: st) := R_ite (fun h => fun out ho ls H locs hl hP hS => lv_if_lt C.1 C.2.1 hd ht (fun _ => k1 out ho ls H locs hl hP hS) (fun h2 => absurd h h2)) (fun h => fun out ho ls H locs hl hP hS => lv_if_lt C.1 C.2.1 hd ht (fun h2 => absurd h2 h) (fun _ => k2 out ho ls H locs hl hP hS))
theorem R_if_ge (C : Ctx sd q z cc own nL rk ret) {x : Int32} {off : Int} {tgt : Nat} {f1 f2 : Option β} (hd : decode cc pc = .ok (.ifCond .ge off, 3)) (ht : (pc : Int) + off = (tgt : Int)) (k1 : R sd q z nL φ f1 μ ν tgt lv st) (k2 : R sd q z nL φ f2 μ ν (pc + 3) lv st) : R sd q z nL φ (if 0 ≤ x then f1 else f2) μ ν pc lv (.int x :: st) := R_ite (fun h => fun out ho ls H locs hl hP hS => lv_if_ge C.1 C.2.1 hd ht (fun _ => k1 out ho ls H locs hl hP hS) (fun h2 => absurd h h2)) (fun h => fun out ho ls H locs hl hP hS => lv_if_ge C.1 C.2.1 hd ht (fun h2 => absurd h2 h) (fun _ => k2 out ho ls H locs hl hP hS))
theorem R_if_gt (C : Ctx sd q z cc own nL rk ret) {x : Int32} {off : Int} {tgt : Nat} {f1 f2 : Option β} (hd : decode cc pc = .ok (.ifCond .gt off, 3)) (ht : (pc : Int) + off = (tgt : Int)) (k1 : R sd q z nL φ f1 μ ν tgt lv st) (k2 : R sd q z nL φ f2 μ ν (pc + 3) lv st) : R sd q z nL φ (if 0 < x then f1 else f2) μ ν pc lv (.int x :: st) := R_ite (fun h => fun out ho ls H locs hl hP hS => lv_if_gt C.1 C.2.1 hd ht (fun _ => k1 out ho ls H locs hl hP hS) (fun h2 => absurd h h2)) (fun h => fun out ho ls H locs hl hP hS => lv_if_gt C.1 C.2.1 hd ht (fun h2 => absurd h2 h) (fun _ => k2 out ho ls H locs hl hP hS))
theorem R_if_le (C : Ctx sd q z cc own nL rk ret) {x : Int32} {off : Int} {tgt : Nat} {f1 f2 : Option β} (hd : decode cc pc = .ok (.ifCond .le off, 3)) (ht : (pc : Int) + off = (tgt : Int)) (k1 : R sd q z nL φ f1 μ ν tgt lv st) (k2 : R sd q z nL φ f2 μ ν (pc + 3) lv st) : R sd q z nL φ (if x ≤ 0 then f1 else f2) μ ν pc lv (.int x :: st) := R_ite (fun h => fun out ho ls H locs hl hP hS => lv_if_le C.1 C.2.1 hd ht (fun _ => k1 out ho ls H locs hl hP hS) (fun h2 => absurd h h2)) (fun h => fun out ho ls H locs hl hP hS => lv_if_le C.1 C.2.1 hd ht (fun h2 => absurd h2 h) (fun _ => k2 out ho ls H locs hl hP hS))
theorem R_if_ne (C : Ctx sd q z cc own nL rk ret) {x : Int32} {off : Int} {tgt : Nat} {f1 f2 : Option β} (hd : decode cc pc = .ok (.ifCond .ne off, 3)) (ht : (pc : Int) + off = (tgt : Int)) (k1 : R sd q z nL φ f1 μ ν tgt lv st) (k2 : R sd q z nL φ f2 μ ν (pc + 3) lv st) : R sd q z nL φ (if x = 0 then f2 else f1) μ ν pc lv (.int x :: st) := R_ite (fun h => fun out ho ls H locs hl hP hS => lv_if_ne C.1 C.2.1 hd ht (fun h2 => absurd h h2) (fun _ => k2 out ho ls H locs hl hP hS)) (fun h => fun out ho ls H locs hl hP hS => lv_if_ne C.1 C.2.1 hd ht (fun _ => k1 out ho ls H locs hl hP hS) (fun h2 => absurd h2 h))
theorem R_icmp_eq (C : Ctx sd q z cc own nL rk ret) {x y : Int32} {off : Int} {tgt : Nat} {f1 f2 : Option β} (hd : decode cc pc = .ok (.if_icmp .eq off, 3)) (ht : (pc : Int) + off = (tgt : Int)) (k1 : R sd q z nL φ f1 μ ν tgt lv st) (k2 : R sd q z nL φ f2 μ ν (pc + 3) lv st) : R sd q z nL φ (if x = y then f1 else f2) μ ν pc lv (.int y :: .int x :: st) := R_ite (fun h => fun out ho ls H locs hl hP hS => lv_icmp_eq C.1 C.2.1 hd ht (fun _ => k1 out ho ls H locs hl hP hS) (fun h2 => absurd h h2)) (fun h => fun out ho ls H locs hl hP hS => lv_icmp_eq C.1 C.2.1 hd ht (fun h2 => absurd h2 h) (fun _ => k2 out ho ls H locs hl hP hS))
theorem R_icmp_lt (C : Ctx sd q z cc own nL rk ret) {x y : Int32} {off : Int} {tgt : Nat} {f1 f2 : Option β} (hd : decode cc pc = .ok (.if_icmp .lt off, 3)) (ht : (pc : Int) + off = (tgt : Int)) (k1 : R sd q z nL φ f1 μ ν tgt lv st) (k2 : R sd q z nL φ f2 μ ν (pc + 3) lv st) : R sd q z nL φ (if x < y then f1 else f2) μ ν pc lv (.int y :: .int x :: st) := R_ite (fun h => fun out ho ls H locs hl hP hS => lv_icmp_lt C.1 C.2.1 hd ht (fun _ => k1 out ho ls H locs hl hP hS) (fun h2 => absurd h h2)) (fun h => fun out ho ls H locs hl hP hS => lv_icmp_lt C.1 C.2.1 hd ht (fun h2 => absurd h2 h) (fun _ => k2 out ho ls H locs hl hP hS))
theorem R_icmp_ge (C : Ctx sd q z cc own nL rk ret) {x y : Int32} {off : Int} {tgt : Nat} {f1 f2 : Option β} (hd : decode cc pc = .ok (.if_icmp .ge off, 3)) (ht : (pc : Int) + off = (tgt : Int)) (k1 : R sd q z nL φ f1 μ ν tgt lv st) (k2 : R sd q z nL φ f2 μ ν (pc + 3) lv st) : R sd q z nL φ (if y ≤ x then f1 else f2) μ ν pc lv (.int y :: .int x :: st) := R_ite (fun h => fun out ho ls H locs hl hP hS => lv_icmp_ge C.1 C.2.1 hd ht (fun _ => k1 out ho ls H locs hl hP hS) (fun h2 => absurd h h2)) (fun h => fun out ho ls H locs hl hP hS => lv_icmp_ge C.1 C.2.1 hd ht (fun h2 => absurd h2 h) (fun _ => k2 out ho ls H locs hl hP hS))
theorem R_icmp_gt (C : Ctx sd q z cc own nL rk ret) {x y : Int32} {off : Int} {tgt : Nat} {f1 f2 : Option β} (hd : decode cc pc = .ok (.if_icmp .gt off, 3)) (ht : (pc : Int) + off = (tgt : Int)) (k1 : R sd q z nL φ f1 μ ν tgt lv st) (k2 : R sd q z nL φ f2 μ ν (pc + 3) lv st) : R sd q z nL φ (if y < x then f1 else f2) μ ν pc lv (.int y :: .int x :: st) := R_ite (fun h => fun out ho ls H locs hl hP hS => lv_icmp_gt C.1 C.2.1 hd ht (fun _ => k1 out ho ls H locs hl hP hS) (fun h2 => absurd h h2)) (fun h => fun out ho ls H locs hl hP hS => lv_icmp_gt C.1 C.2.1 hd ht (fun h2 => absurd h2 h) (fun _ => k2 out ho ls H locs hl hP hS))
theorem R_icmp_le (C : Ctx sd q z cc own nL rk ret) {x y : Int32} {off : Int} {tgt : Nat} {f1 f2 : Option β} (hd : decode cc pc = .ok (.if_icmp .le off, 3)) (ht : (pc : Int) + off = (tgt : Int)) (k1 : R sd q z nL φ f1 μ ν tgt lv st) (k2 : R sd q z nL φ f2 μ ν (pc + 3) lv st) : R sd q z nL φ (if x ≤ y then f1 else f2) μ ν pc lv (.int y :: .int x :: st) := R_ite (fun h => fun out ho ls H locs hl hP hS => lv_icmp_le C.1 C.2.1 hd ht (fun _ => k1 out ho ls H locs hl hP hS) (fun h2 => absurd h h2)) (fun h => fun out ho ls H locs hl hP hS => lv_icmp_le C.1 C.2.1 hd ht (fun h2 => absurd h2 h) (fun _ => k2 out ho ls H locs hl hP hS))
theorem R_icmp_ne (C : Ctx sd q z cc own nL rk ret) {x y : Int32} {off : Int} {tgt : Nat} {f1 f2 : Option β} (hd : decode cc pc = .ok (.if_icmp .ne off, 3)) (ht : (pc : Int) + off = (tgt : Int)) (k1 : R sd q z nL φ f1 μ ν tgt lv st) (k2 : R sd q z nL φ f2 μ ν (pc + 3) lv st) : R sd q z nL φ (if x = y then f2 else f1) μ ν pc lv (.int y :: .int x :: st) := R_ite (fun h => fun out ho ls H locs hl hP hS => lv_icmp_ne C.1 C.2.1 hd ht (fun h2 => absurd h h2) (fun _ => k2 out ho ls H locs hl hP hS)) (fun h => fun out ho ls H locs hl hP hS => lv_icmp_ne C.1 C.2.1 hd ht (fun _ => k1 out ho ls H locs hl hP hS) (fun h2 => absurd h2 h))
theorem R_tsw (C : Ctx sd q z cc own nL rk ret) {dflt lo hi : Int} {offs : Array Int} {len : Nat} {x c : Int32} {off : Int} {tgt : Nat} (hx : x = c) (hd : decode cc pc = .ok (.tableswitch dflt lo hi offs, len)) (h1 : ¬ c.toInt < lo) (h2 : ¬ hi < c.toInt) (ho' : offs[(c.toInt - lo).toNat]? = some off) (ht : (pc : Int) + off = (tgt : Int)) (k : R sd q z nL φ f μ ν tgt lv st) : R sd q z nL φ f μ ν pc lv (.int x :: st) := by
  subst hx
  exact fun out ho ls H locs hl hP hS => lv_tableIn C.1 C.2.1 hd h1 h2 ho' ht (k out ho ls H locs hl hP hS)
theorem sw_out {L : List Int32} {lo hi : Int} {n : Nat} (hn : hi - lo < (n : Int)) (hL : (List.range n).map (fun (i : Nat) => lo + (i : Int)) = L.map Int32.toInt) {x : Int32} (h : ∀ c ∈ L, ¬ x = c) : x.toInt < lo ∨ hi < x.toInt := by
  by_cases h1 : x.toInt < lo
  · exact Or.inl h1
  · by_cases h2 : hi < x.toInt
    · exact Or.inr h2
    · exfalso
      have hm : x.toInt ∈ (List.range n).map (fun (i : Nat) => lo + (i : Int)) := List.mem_map.mpr ⟨(x.toInt - lo).toNat, List.mem_range.mpr (by omega), by omega⟩
      rw [hL] at hm
      obtain ⟨c, hc, he⟩ := List.mem_map.mp hm
      exact h c hc (Int32.toInt_inj.mp he).symm
theorem R_tswd (C : Ctx sd q z cc own nL rk ret) {dflt lo hi : Int} {offs : Array Int} {len : Nat} {x : Int32} {tgt : Nat} (hd : decode cc pc = .ok (.tableswitch dflt lo hi offs, len)) (h : x.toInt < lo ∨ hi < x.toInt) (ht : (pc : Int) + dflt = (tgt : Int)) (k : R sd q z nL φ f μ ν tgt lv st) : R sd q z nL φ f μ ν pc lv (.int x :: st) := fun out ho ls H locs hl hP hS => lv_tableOut C.1 C.2.1 hd h ht (k out ho ls H locs hl hP hS)
theorem R_lsw (C : Ctx sd q z cc own nL rk ret) {dflt : Int} {ps : Array (Int × Int)} {len : Nat} {x : Int32} {off : Int} {tgt : Nat} (hd : decode cc pc = .ok (.lookupswitch dflt ps, len)) (hp : (ps.toList.zip (ps.toList.drop 1)).all (fun (a, next) => a.1 < next.1) = true) (ho' : Op.lookupswitch.offset ps.toList dflt x.toInt = off) (ht : (pc : Int) + off = (tgt : Int)) (k : R sd q z nL φ f μ ν tgt lv st) : R sd q z nL φ f μ ν pc lv (.int x :: st) := fun out ho ls H locs hl hP hS => lv_lookup C.1 C.2.1 hd hp ho' ht (k out ho ls H locs hl hP hS)
theorem R_getf (C : Ctx sd q z cc own nL rk ret) {b ci index : Nat} {fs : List Value} {Cn ref n d : String} {T : u_T} {N : Nat} (hb : b ∈ sd.1) (hc : sd.2.1 q.2.2.1 q.2.2.2 b (μ b) (ν b) = .inr (ci, fs)) (hcl : vwCl[ci]? = some (Cn, T, N)) (hin : ∀ w ∈ u_ws Cn T N, w ∈ gW) (k' : Nat) (hk : k' < N) (hT : T k' = (ref, n, d, (T k').2.2.2)) (hlink : Cond.fieldLink own index ref n d ∈ gW) {v : Value} (hv : fs[k']? = some v) (hd : decode cc pc = .ok (.getfield index, 3)) (k : R sd q z nL φ f μ ν (pc + 3) lv (v :: st)) : R sd q z nL φ f μ ν pc lv (.ref (q.2.2.1 b) :: st) := by
  intro out ho ls H locs hl hP hS
  obtain ⟨i, hi, he⟩ := wd_get (q := q) (μ := μ) (ν := ν) hb
  rw [hc] at he
  have e1 : (T k').1 = ref := by rw [hT]
  have e2 : (T k').2.1 = n := by rw [hT]
  have e3 : (T k').2.2.1 = d := by rw [hT]
  refine va_get C.1 C.2.1 (C := Cn) (T := T) (N := N) (Ts := gW) (ref := ref) C.2.2.2.2.1 hin C.2.2.2.1 C.2.2.2.2.2.2.1 hP i he hcl k' hk (by rw [e2, e3]; exact C.2.2.2.2.1 _ hlink) (by rw [e1]; exact fun _ h => h) hv hd (k out ho ls H locs hl hP hS)
theorem R_putf (C : Ctx sd q z cc own nL rk ret) {b ci index : Nat} {fs : List Value} {Cn ref n d : String} {T : u_T} {N : Nat} {ty : Nat → FieldType} (hb : b ∈ sd.1) (hc : sd.2.1 q.2.2.1 q.2.2.2 b (μ b) (ν b) = .inr (ci, fs)) (hcl : vwCl[ci]? = some (Cn, T, N)) (hin : ∀ w ∈ u_ws Cn T N, w ∈ gW) (hty : ∀ k, k < N → parseFieldDescriptor (T k).2.2.1 = some (ty k)) (hnm : ∀ a, a < N → ∀ b, b < N → a ≠ b → (T a).2.1 ≠ (T b).2.1) (k' : Nat) (hk : k' < N) (hT : T k' = (ref, n, d, false)) (hlink : Cond.fieldLink own index ref n d ∈ gW) {x : Int32} (hn : narrow (ty k') (.int x) = .int x) (hft : fits (ty k') (.int x) = true) (hc' : sd.2.1 q.2.2.1 q.2.2.2 b (upd (μ b) k' x) (ν b) = .inr (ci, fs.set k' (.int x))) (hl' : k' < fs.length) (hd : decode cc pc = .ok (.putfield index, 3)) (k : R sd q z nL φ f (up2 μ b k' x) ν (pc + 3) lv st) : R sd q z nL φ f μ ν pc lv (.int x :: .ref (q.2.2.1 b) :: st) := by
  intro out ho ls H locs hl hP hS
  obtain ⟨i, hi, he⟩ := wd_get (q := q) (μ := μ) (ν := ν) hb
  rw [hc] at he
  have e1 : (T k').1 = ref := by rw [hT]
  have e2 : (T k').2.1 = n := by rw [hT]
  have e3 : (T k').2.2.1 = d := by rw [hT]
  have e4 : (T k').2.2.2 = false := by rw [hT]
  have hg := C.2.2.2.2.2.2.2.2.2.2
  refine va_put C.1 C.2.1 (C := Cn) (T := T) (N := N) (Ts := gW) (ref := ref) C.2.2.2.2.1 hin ty hty hnm C.2.2.2.1 C.2.2.2.2.2.2.1 hP (wd_D hg μ ν _) hS i he hcl k' hk (by rw [e2, e3]; exact C.2.2.2.2.1 _ hlink) (by rw [e1]; exact fun _ h => h) e4 (hty k' hk) hn hft hl' hd (fun H1 locs1 hP1 hD1 hS1 => ?_)
  rw [wd_put (μ' := up2 μ b k' x) (ν' := ν) hg.1 hi up2_ne (fun _ _ => rfl) (by rw [up2_eq]; exact hc')] at hP1
  exact k out ho ls H1 locs1 hl hP1 hS1
def rdI (g : Nat → Int32) (n : Nat) (j : Int32) : Option Int32 := if j < 0 ∨ n ≤ j.toNatClampNeg then none else some (g j.toNatClampNeg)
def rdL (g : Nat → Int64) (n : Nat) (j : Int32) : Option Int64 := if j < 0 ∨ n ≤ j.toNatClampNeg then none else some (g j.toNatClampNeg)
/-- a row of cells: the j-th is b + j -/
def rdR (b n : Nat) (j : Int32) : Option Nat := if j < 0 ∨ n ≤ j.toNatClampNeg then none else some (b + j.toNatClampNeg)
def wrI (μ : Mm) (b n : Nat) (j x : Int32) : Option Mm := if j < 0 ∨ n ≤ j.toNatClampNeg then none else some (up2 μ b j.toNatClampNeg x)
def wrL (ν : Ml) (b n : Nat) (j : Int32) (x : Int64) : Option Ml := if j < 0 ∨ n ≤ j.toNatClampNeg then none else some (upL ν b j.toNatClampNeg x)
def cpI (μ : Mm) (b0 n0 : Nat) (sp : Int32) (b1 n1 : Nat) (dp n : Int32) : Option Mm := if sp < 0 ∨ dp < 0 ∨ n < 0 ∨ n0 < sp.toNatClampNeg + n.toNatClampNeg ∨ n1 < dp.toNatClampNeg + n.toNatClampNeg then none else some (fun c => if c = b1 then va_cpy (μ b0) (μ b1) sp.toNatClampNeg dp.toNatClampNeg n.toNatClampNeg else μ c)
def cpL (ν : Ml) (b0 n0 : Nat) (sp : Int32) (b1 n1 : Nat) (dp n : Int32) : Option Ml := if sp < 0 ∨ dp < 0 ∨ n < 0 ∨ n0 < sp.toNatClampNeg + n.toNatClampNeg ∨ n1 < dp.toNatClampNeg + n.toNatClampNeg then none else some (fun c => if c = b1 then va_cpy (ν b0) (ν b1) sp.toNatClampNeg dp.toNatClampNeg n.toNatClampNeg else ν c)
theorem R_bind {α : Type} {o : Option α} {g : α → Option β} (k : ∀ a, o = some a → R sd q z nL φ (g a) μ ν pc lv st) : R sd q z nL φ (o.bind g) μ ν pc lv st := by
  cases h : o with
  | none => exact R_none
  | some a => exact k a h
theorem gd_some {α : Type} {c : Prop} [Decidable c] {x a : α} (h : (if c then none else some x) = some a) : ¬ c ∧ a = x := by
  by_cases hc : c
  · rw [if_pos hc] at h
    cases h
  · rw [if_neg hc] at h
    exact ⟨hc, (Option.some.inj h).symm⟩
theorem R_iald (C : Ctx sd q z cc own nL rk ret) {b n : Nat} {i : Int32} {g : Int32 → Option β} (hb : b ∈ sd.1) (hc : sd.2.1 q.2.2.1 q.2.2.2 b (μ b) (ν b) = .inl (q.2.2.2 0, n, .inl (μ b))) (hd : decode cc pc = .ok (.iaload, 1)) (k : ∀ v, R sd q z nL φ (g v) μ ν (pc + 1) lv (.int v :: st)) : R sd q z nL φ ((rdI (μ b) n i).bind g) μ ν pc lv (.int i :: .ref (q.2.2.1 b) :: st) := by
  refine R_bind (fun a ha => ?_)
  obtain ⟨h1, rfl⟩ := gd_some ha
  intro out ho ls H locs hl hP hS
  obtain ⟨j, hj, he⟩ := wd_get (q := q) (μ := μ) (ν := ν) hb
  rw [hc] at he
  exact va_iald C.1 C.2.1 C.2.2.2.2.2.2.1 hP j 0 he rfl h1 hd (k _ out ho ls H locs hl hP hS)
theorem R_bald (C : Ctx sd q z cc own nL rk ret) {b n : Nat} {i : Int32} {g : Int32 → Option β} (hb : b ∈ sd.1) (hc : sd.2.1 q.2.2.1 q.2.2.2 b (μ b) (ν b) = .inl (q.2.2.2 1, n, .inl (μ b))) (hd : decode cc pc = .ok (.baload, 1)) (k : ∀ v, R sd q z nL φ (g v) μ ν (pc + 1) lv (.int v :: st)) : R sd q z nL φ ((rdI (μ b) n i).bind g) μ ν pc lv (.int i :: .ref (q.2.2.1 b) :: st) := by
  refine R_bind (fun a ha => ?_)
  obtain ⟨h1, rfl⟩ := gd_some ha
  intro out ho ls H locs hl hP hS
  obtain ⟨j, hj, he⟩ := wd_get (q := q) (μ := μ) (ν := ν) hb
  rw [hc] at he
  exact va_bald C.1 C.2.1 C.2.2.2.2.2.2.1 hP j 1 he rfl h1 hd (k _ out ho ls H locs hl hP hS)
theorem R_zald (C : Ctx sd q z cc own nL rk ret) {b n : Nat} {i : Int32} {g : Int32 → Option β} (hb : b ∈ sd.1) (hc : sd.2.1 q.2.2.1 q.2.2.2 b (μ b) (ν b) = .inl (q.2.2.2 3, n, .inl (μ b))) (hd : decode cc pc = .ok (.baload, 1)) (k : ∀ v, R sd q z nL φ (g v) μ ν (pc + 1) lv (.int v :: st)) : R sd q z nL φ ((rdI (μ b) n i).bind g) μ ν pc lv (.int i :: .ref (q.2.2.1 b) :: st) := by
  refine R_bind (fun a ha => ?_)
  obtain ⟨h1, rfl⟩ := gd_some ha
  intro out ho ls H locs hl hP hS
  obtain ⟨j, hj, he⟩ := wd_get (q := q) (μ := μ) (ν := ν) hb
  rw [hc] at he
  exact va_zald C.1 C.2.1 C.2.2.2.2.2.2.1 hP j 3 he rfl h1 hd (k _ out ho ls H locs hl hP hS)
theorem R_lald (C : Ctx sd q z cc own nL rk ret) {b n : Nat} {i : Int32} {g : Int64 → Option β} (hb : b ∈ sd.1) (hc : sd.2.1 q.2.2.1 q.2.2.2 b (μ b) (ν b) = .inl (q.2.2.2 2, n, .inr (.inl (ν b)))) (hd : decode cc pc = .ok (.laload, 1)) (k : ∀ v, R sd q z nL φ (g v) μ ν (pc + 1) lv (.long v :: st)) : R sd q z nL φ ((rdL (ν b) n i).bind g) μ ν pc lv (.int i :: .ref (q.2.2.1 b) :: st) := by
  refine R_bind (fun a ha => ?_)
  obtain ⟨h1, rfl⟩ := gd_some ha
  intro out ho ls H locs hl hP hS
  obtain ⟨j, hj, he⟩ := wd_get (q := q) (μ := μ) (ν := ν) hb
  rw [hc] at he
  exact va_lald C.1 C.2.1 C.2.2.2.2.2.2.1 hP j 2 he rfl h1 hd (k _ out ho ls H locs hl hP hS)
theorem rdR_in {b n : Nat} {j : Int32} {a : Nat} (h : rdR b n j = some a) : ∃ i, i < n ∧ a = b + i ∧ j.toNatClampNeg = i := by
  obtain ⟨h1, rfl⟩ := gd_some h
  exact ⟨_, by omega, rfl, rfl⟩
theorem R_aald (C : Ctx sd q z cc own nL rk ret) {b n r ti : Nat} {ty : FieldType} {i : Int32} {g : Nat → Option β} (hb : b ∈ sd.1) (hc : sd.2.1 q.2.2.1 q.2.2.2 b (μ b) (ν b) = .inl (q.2.2.2 ti, n, .inr (.inr (.inr (.inr (fun j => some (q.2.2.1 (r + j)))))))) (hty : (tyl q)[ti]? = some (q.2.2.2 ti, ty)) (href : ty.isReference = true) (hd : decode cc pc = .ok (.aaload, 1)) (k : ∀ v, rdR r n i = some v → R sd q z nL φ (g v) μ ν (pc + 1) lv (.ref (q.2.2.1 v) :: st)) : R sd q z nL φ ((rdR r n i).bind g) μ ν pc lv (.int i :: .ref (q.2.2.1 b) :: st) := by
  refine R_bind (fun a ha => ?_)
  have kk := k a ha
  obtain ⟨h1, rfl⟩ := gd_some ha
  intro out ho ls H locs hl hP hS
  obtain ⟨j, hj, he⟩ := wd_get (q := q) (μ := μ) (ν := ν) hb
  rw [hc] at he
  have hlt : i.toNatClampNeg < n := Nat.not_le.mp fun q => h1 (Or.inr q)
  refine W.aald (v := .ref (q.2.2.1 (r + i.toNatClampNeg))) (ty := ty) C.1 C.2.1 (hP j _ he) ((C.2.2.2.2.2.2.1.2 ti _ hty).1 n (fun j => va_rf (some (q.2.2.1 (r + j))))) href (fun q => by cases q) (by show ¬ (i < 0 ∨ (arrV _ _ _).slots.size ≤ _); rw [arrV_size]; exact h1) (by show (arrV _ _ _).slots[_]? = _; rw [arrV_read _ _ hlt]; rfl) rfl rfl hd (kk out ho ls H locs hl hP hS)
theorem R_alen (C : Ctx sd q z cc own nL rk ret) {b ti : Nat} {ty : FieldType} {x : vp_A} {v : Int32} (hb : b ∈ sd.1) (hc : sd.2.1 q.2.2.1 q.2.2.2 b (μ b) (ν b) = .inl (q.2.2.2 ti, x)) (hty : (tyl q)[ti]? = some (q.2.2.2 ti, ty)) (hv : Int32.ofNat x.1 = v) (hd : decode cc pc = .ok (.arraylength, 1)) (k : R sd q z nL φ f μ ν (pc + 1) lv (.int v :: st)) : R sd q z nL φ f μ ν pc lv (.ref (q.2.2.1 b) :: st) := by
  intro out ho ls H locs hl hP hS
  obtain ⟨j, hj, he⟩ := wd_get (q := q) (μ := μ) (ν := ν) hb
  rw [hc] at he
  exact va_alen C.1 C.2.1 C.2.2.2.2.2.2.1 hP j ti he hty hv hd (k out ho ls H locs hl hP hS)
theorem R_iast (C : Ctx sd q z cc own nL rk ret) {b n : Nat} {i x : Int32} {g : Mm → Option β} (hb : b ∈ sd.1) (hc : ∀ h : Nat → Int32, sd.2.1 q.2.2.1 q.2.2.2 b h (ν b) = .inl (q.2.2.2 0, n, .inl h)) (hd : decode cc pc = .ok (.iastore, 1)) (k : ∀ μ', R sd q z nL φ (g μ') μ' ν (pc + 1) lv st) : R sd q z nL φ ((wrI μ b n i x).bind g) μ ν pc lv (.int x :: .int i :: .ref (q.2.2.1 b) :: st) := by
  refine R_bind (fun a ha => ?_)
  obtain ⟨h1, rfl⟩ := gd_some ha
  intro out ho ls H locs hl hP hS
  obtain ⟨j, hj, he⟩ := wd_get (q := q) (μ := μ) (ν := ν) hb
  have hg := C.2.2.2.2.2.2.2.2.2.2
  rw [hc] at he
  refine va_iast C.1 C.2.1 C.2.2.2.2.2.2.1 hP (wd_D hg μ ν _) hS j 0 he rfl h1 hd (fun H1 locs1 hP1 hD1 hS1 => ?_)
  rw [wd_put (μ' := up2 μ b i.toNatClampNeg x) (ν' := ν) hg.1 hj up2_ne (fun _ _ => rfl) (by rw [up2_eq]; exact hc _)] at hP1
  exact k _ out ho ls H1 locs1 hl hP1 hS1
theorem R_bast (C : Ctx sd q z cc own nL rk ret) {b n : Nat} {i x : Int32} {g : Mm → Option β} (hb : b ∈ sd.1) (hc : ∀ h : Nat → Int32, sd.2.1 q.2.2.1 q.2.2.2 b h (ν b) = .inl (q.2.2.2 1, n, .inl h)) (hd : decode cc pc = .ok (.bastore, 1)) (k : ∀ μ', R sd q z nL φ (g μ') μ' ν (pc + 1) lv st) : R sd q z nL φ ((wrI μ b n i (vp_nar .byte x)).bind g) μ ν pc lv (.int x :: .int i :: .ref (q.2.2.1 b) :: st) := by
  refine R_bind (fun a ha => ?_)
  obtain ⟨h1, rfl⟩ := gd_some ha
  intro out ho ls H locs hl hP hS
  obtain ⟨j, hj, he⟩ := wd_get (q := q) (μ := μ) (ν := ν) hb
  have hg := C.2.2.2.2.2.2.2.2.2.2
  rw [hc] at he
  refine va_bast C.1 C.2.1 C.2.2.2.2.2.2.1 hP (wd_D hg μ ν _) hS j 1 he rfl h1 hd (fun H1 locs1 hP1 hD1 hS1 => ?_)
  rw [wd_put (μ' := up2 μ b i.toNatClampNeg (vp_nar .byte x)) (ν' := ν) hg.1 hj up2_ne (fun _ _ => rfl) (by rw [up2_eq]; exact hc _)] at hP1
  exact k _ out ho ls H1 locs1 hl hP1 hS1
theorem R_zast (C : Ctx sd q z cc own nL rk ret) {b n : Nat} {i x : Int32} {g : Mm → Option β} (hb : b ∈ sd.1) (hc : ∀ h : Nat → Int32, sd.2.1 q.2.2.1 q.2.2.2 b h (ν b) = .inl (q.2.2.2 3, n, .inl h)) (hd : decode cc pc = .ok (.bastore, 1)) (k : ∀ μ', R sd q z nL φ (g μ') μ' ν (pc + 1) lv st) : R sd q z nL φ ((wrI μ b n i (vp_nar .boolean x)).bind g) μ ν pc lv (.int x :: .int i :: .ref (q.2.2.1 b) :: st) := by
  refine R_bind (fun a ha => ?_)
  obtain ⟨h1, rfl⟩ := gd_some ha
  intro out ho ls H locs hl hP hS
  obtain ⟨j, hj, he⟩ := wd_get (q := q) (μ := μ) (ν := ν) hb
  have hg := C.2.2.2.2.2.2.2.2.2.2
  rw [hc] at he
  refine va_zast C.1 C.2.1 C.2.2.2.2.2.2.1 hP (wd_D hg μ ν _) hS j 3 he rfl h1 hd (fun H1 locs1 hP1 hD1 hS1 => ?_)
  rw [wd_put (μ' := up2 μ b i.toNatClampNeg (vp_nar .boolean x)) (ν' := ν) hg.1 hj up2_ne (fun _ _ => rfl) (by rw [up2_eq]; exact hc _)] at hP1
  exact k _ out ho ls H1 locs1 hl hP1 hS1
theorem R_last (C : Ctx sd q z cc own nL rk ret) {b n : Nat} {i : Int32} {x : Int64} {g : Ml → Option β} (hb : b ∈ sd.1) (hc : ∀ h : Nat → Int64, sd.2.1 q.2.2.1 q.2.2.2 b (μ b) h = .inl (q.2.2.2 2, n, .inr (.inl h))) (hd : decode cc pc = .ok (.lastore, 1)) (k : ∀ ν', R sd q z nL φ (g ν') μ ν' (pc + 1) lv st) : R sd q z nL φ ((wrL ν b n i x).bind g) μ ν pc lv (.long x :: .int i :: .ref (q.2.2.1 b) :: st) := by
  refine R_bind (fun a ha => ?_)
  obtain ⟨h1, rfl⟩ := gd_some ha
  intro out ho ls H locs hl hP hS
  obtain ⟨j, hj, he⟩ := wd_get (q := q) (μ := μ) (ν := ν) hb
  have hg := C.2.2.2.2.2.2.2.2.2.2
  rw [hc] at he
  refine va_last C.1 C.2.1 C.2.2.2.2.2.2.1 hP (wd_D hg μ ν _) hS j 2 he rfl h1 hd (fun H1 locs1 hP1 hD1 hS1 => ?_)
  rw [wd_put (μ' := μ) (ν' := upL ν b i.toNatClampNeg x) hg.1 hj (fun _ _ => rfl) upL_ne (by rw [upL_eq]; exact hc _)] at hP1
  exact k _ out ho ls H1 locs1 hl hP1 hS1
end RL
