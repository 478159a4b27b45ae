def kd_PK : List Nat := [24, 25, 26, 27, 28, 29, 30]
def kd_Talk : List Nat := [25, 28]
def kd_Quiet : List Nat := [26, 29]
def kd_Short : List Nat := [27, 30]
def kd_Tom : List Nat := [28]
def kd_Cork : List Nat := [29]
def kd_Told : List Nat := [30]
theorem kdup {A B : List Nat} {x : Nat} (h : A.all (fun a => B.contains a) = true) (hx : x ∈ A) : x ∈ B := by
  have h1 := List.all_eq_true.mp h x hx
  simpa using h1
section KS
variable {β : Type} {sd : SD} {q : QT} {z : ZT} {cc : ByteArray} {own : String} {nL rk : Nat} {ret : Option FieldType} {φ : β → Option Value × Mm × Ml} {f : Option β} {μ : Mm} {ν : Ml} {pc : Nat} {lv : List (Nat × Value)} {st : List Value}
variable {y : MethodName} {cy' : ByteArray} {maxL n rk' index : Nat} {rt : Option FieldType} {As av : List Value} {v : Option Value} {μ' : Mm} {ν' : Ml} {stk : List Value}
theorem R_astore (C : Ctx sd q z cc own nL rk ret) {i : Nat} {x : Nat} {lv' : List (Nat × Value)} (hd : decode cc pc = .ok (.astore i, 2)) (hn : i < nL) (hl' : (i, Value.ref x) :: lv.filter (fun q => !(q.1 == i) && !(q.1 + 1 == i && q.2.category == 2)) = lv') (k : R sd q z nL φ f μ ν (pc + 2) lv' st) : R sd q z nL φ f μ ν pc lv (.ref x :: st) := fun out ho ls H locs hl hP hS => lv_astore C.1 C.2.1 hd hl hn hl' (fun ls' h' => k out ho ls' H locs h' hP hS)
theorem sub_two {args : Array Value} {s : State} {C P : String} {c p : ClassId} (hc : s.vm.findClass C = some c) (hp : s.vm.findClass P = some p) (h : (Cond.superclass C P).before args s = true) : s.vm.isSubclass c p = true := by
  obtain ⟨p', k, kp, h1, h2, h3, h4, -⟩ := Cond.superclass_spec hc h
  cases hp.symm.trans h1
  unfold Vm.isSubclass
  have hlt : c < s.vm.classes.size := (Array.getElem?_eq_some_iff.mp h2).1
  obtain ⟨w, hw⟩ : ∃ w, s.vm.classes.size = w + 1 := Nat.exists_eq_succ_of_ne_zero (Nat.ne_of_gt (Nat.lt_of_le_of_lt (Nat.zero_le _) hlt))
  simp [hw, Vm.isSubclassAux, h2, h4]
theorem callSO {p : Program} {l : Launch} {e : Env} {R : Room} {s : State} {m : MethodId} {args : Array Value} {below : List Frame} {meth : Method} {c : Code} {T : State} {locs : List Loc} {cells slots : Nat} (X : Stand p l e R s m args below meth c T locs cells slots) (hexec : p.tables.exec = Jvm.exec) {own : String} {index : Nat} {x y : MethodName} {bytes : ByteArray} {maxL : Nat} {ret : Option FieldType}
    (hown : s.vm.findClass own = some m.cls) (hyx : y = ⟨y.cls, x.name, x.desc⟩) (hlink : (Cond.methodLink own index x).before args s = true) (hsame : (Cond.sameMethod x.cls y.cls x.name x.desc).before args s = true) (hsup : (Cond.superclass own x.cls).before args s = true) (hsup2 : (Cond.superclass x.cls y.cls).before args s = true)
    (hinst : (Cond.instanceMethod y).before args s = true) (hcode : (Cond.code y bytes maxL ret).before args s = true) (hno : x.name ≠ "<init>")
    {W : Nat} {Pre : Pt → Array Value → Prop} {Post : Pt → Array Value → Option Value → Pt → Prop} (hK : Back l R p e below s args y 3 W Pre Post)
    {b : Addr} {cellB : Cell} {kB : Class} (hcell : T.heap[b]? = some cellB) (hobj : cellB.vm.isStatics = false) (hkB : s.vm.classes[cellB.cls]? = some kB)
    {g : JFrame} (hg : g.method = m) (hsize : g.locals.size = c.maxLocals) {argsL rest : List Value} (hlen : ∀ sig, parseMethodDescriptor y.desc = some sig → argsL.length = sig.parameters.length)
    (hstack : g.stack = argsL.reverse ++ .ref b :: rest) (hW : 2 * g.monitorRoom + (rest.map fun v => v.category).sum ≤ W) (hdg : decode c.code g.pc = .ok (.invokespecial index, 3))
    (hpre : ∀ vm₁, s.WarmedH vm₁ → Pre ⟨T.setVm vm₁, locs, cells, slots⟩ (Value.ref b :: argsL).toArray) :
    ∃ (v : Option Value) (vm₁ : Vm) (B : Pt), s.WarmedH vm₁ ∧ Stand p l e R s m args below meth c B.U B.locs B.cells B.slots ∧ Post ⟨T.setVm vm₁, locs, cells, slots⟩ (Value.ref b :: argsL).toArray v B ∧
      ∀ target, Steps p.tables e below (B.U.setTop { g with pc := g.pc + 3, stack := v.toList ++ rest }) target → Steps p.tables e below (T.setTop g) target := by
  obtain ⟨mk, methM, hnamed, hmethM, hstM, habM⟩ := Cond.instanceMethod_spec hinst
  obtain ⟨methM', cM, hmethM', -, -, -, -, -, -, hsigM⟩ := Cond.code_spec hnamed hcode
  cases hmethM.symm.trans hmethM'
  obtain ⟨ps, dk, kp, hps, hdk, hkp, hsuper, -, -, hnid⟩ := Cond.superclass_spec hown hsup
  have hn : s.methodNamed? ⟨y.cls, x.name, x.desc⟩ = some mk := by rw [← hyx]; exact hnamed
  have hsub : s.vm.isSubclass ps mk.cls = true := sub_two hps (findClass_of_methodNamed hnamed) hsup2
  obtain ⟨vm₁, X₁, hstep₁⟩ := X.invokespecialUp hexec hown hlink hsame hn hmethM hstM habM hno hdk hnid hps hsuper hsub (a := b) (cell := cellB) hcell
    (fun z h => by rw [h] at hobj; cases hobj) hkB (g := g) hg (argsL := argsL) (rest := rest) (hlen _ hsigM) hstack hdg
  obtain ⟨v, B, X', hpost, hsteps⟩ := hK m meth c ⟨T.setVm vm₁, locs, cells, slots⟩ { g with stack := rest } (.invokespecial index) mk (Value.ref b :: argsL).toArray X₁ hg hsize hdg hW (X₁.named hnamed) (hpre vm₁ X₁.warmed)
  exact ⟨v, vm₁, B, X₁.warmed, X', hpost, fun target h => hstep₁ _ (by rw [doInvoke_state]; exact hsteps.trans h)⟩
theorem R_callSO (C : Ctx sd q z cc own nL rk ret) {b ci : Nat} {fs : List Value} {Cn : String} {T : u_T} {N : Nat} (hb : b ∈ sd.1) (hcl : sd.2.1 q.2.2.1 q.2.2.2 b (μ b) (ν b) = .inr (ci, fs)) (hv : vwCl[ci]? = some (Cn, T, N)) (F : CF y cy' maxL rt n) {x : MethodName} (hno : x.name ≠ "<init>") (hyx : y = ⟨y.cls, x.name, x.desc⟩) (hm : Cond.methodLink own index x ∈ gW) (hsm : Cond.sameMethod x.cls y.cls x.name x.desc ∈ gW) (hsup : Cond.superclass own x.cls ∈ gW) (hsup2 : Cond.superclass x.cls y.cls ∈ gW) (hi : Cond.instanceMethod y ∈ gW) (hc : Ct sd q y cy' maxL rt rk' (.ref (q.2.2.1 b) :: As) μ ν v μ' ν') (hrk : rk' + 1 ≤ rk) (hmx : maxL ≤ 80) (hst : stk = As.reverse ++ .ref (q.2.2.1 b) :: st) (hn : As.length = n) (hw : (st.map fun v => v.category).sum ≤ 8) (hd : decode cc pc = .ok (.invokespecial index, 3)) (k : R sd q z nL φ f μ' ν' (pc + 3) lv (v.toList ++ st)) : R sd q z nL φ f μ ν pc lv stk := by
  intro out ho ls H locs hl hP hS
  subst hst
  have hE := C.2.2.2.2.2.2.2.2.2.2.2.2
  obtain ⟨hfr, hlo⟩ := room_ok (maxL := maxL) C.2.2.2.2.2.1 hrk hmx
  have ht := C.2.2.2.2.1
  have hws : ∀ w ∈ wsG y cy' maxL rt, ∀ (a' : Array Value) (U : State), z.1.2.2.2.WarmedH U.vm → w.before a' U = true := pay_in ht (gG (fun _ h => h) F.1 [] (fun w h => by cases h))
  have hK : Back q.1 z.1.2.2.1 z.1.1 z.1.2.1 z.2.2.2.1 z.1.2.2.2 z.2.2.1 y 3 8 (PreOf z.1.2.2.1 0 0 (va_Pc (.ref (q.2.2.1 b) :: As) (PG sd q H.size μ ν))) (PostOf (QG sd q H.size v μ' ν') 0 0 (AA sd q H.size)) := back_of (bytes := cy') (maxL := maxL) (ret := rt) (hc H.size) (PG_blind hE) rfl rfl hfr hlo hws List.mem_cons_self (fun a' U hW => word_at hW (Or.inl (by first | rfl | simp [Cond.onTables, Cond.keeps, Cond.steady])) (ht _ F.2.1))
  obtain ⟨cellB, hcB, hoB, hclB⟩ := rcv_of C hP hb hcl hv
  obtain ⟨hfc, kB, hkB, -⟩ := (C.2.2.2.2.2.2.1.1 ci _ hv).2
  have hcc := Option.some.inj (hfc.symm.trans hclB)
  rw [hcc] at hkB
  refine R_run C (H := H) (locs := locs) (a := (Value.ref (q.2.2.1 b) :: As).toArray) hS ?_ (fun H1 locs1 hP1 hS1 => k out ho ls H1 locs1 hl hP1 hS1)
  intro T hT X
  obtain ⟨w, vm₁, ⟨U', l2, c2, s2⟩, hW₁, X', ⟨g', mk, t, L, e1, e2, hq, h1, hL, h2, h3⟩, stp⟩ := callSO X C.1 (bytes := cy') (maxL := maxL) (ret := rt) C.2.2.2.1 hyx (ht _ hm) (ht _ hsm) (ht _ hsup) (ht _ hsup2) (ht _ hi) (ht _ F.1) hno hK (by rw [hT]; exact hcB) hoB hkB (g := F0 z.2.1 pc ls (As.reverse ++ .ref (q.2.2.1 b) :: st)) rfl (hl.1.trans C.2.2.1.symm) (argsL := As) (rest := st) (fun sig h => hn.trans (by
      have h2 := F.2.2.2
      rw [h] at h2
      exact (Option.some.inj h2).symm)) rfl (by show 2 * 0 + _ ≤ 8; omega) (by rw [C.2.1]; exact hd)
    (fun vm₁ hW₁ => ⟨(cells_ok C.2.2.2.2.2.1).1, (cells_ok C.2.2.2.2.2.1).2, PG_of C hP hS (T.setVm vm₁) hT hW₁⟩)
  dsimp only [Pt.U, Pt.locs, Pt.cells, Pt.slots] at X' e1 e2 h1 h2 h3 stp
  subst h1; subst h2; subst h3
  exact ⟨w, (T.setVm vm₁).calling g' mk (Value.ref (q.2.2.1 b) :: As).toArray, t, U', L, hT, X', hL, e1, e2, hq, stp⟩
end KS
