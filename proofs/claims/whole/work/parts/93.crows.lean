/-! rows of a constructor's walk -/
theorem fm_of {α β : Type} (f : α → Option β) : ∀ (is : List α) (w : List β), is.map f = w.map some → is.filterMap f = w
  | [], w, h => by
    cases w with
    | nil => rfl
    | cons a t => cases h
  | a :: t, w, h => by
    cases w with
    | nil => cases h
    | cons b s =>
      obtain ⟨h1, h2⟩ := List.cons.inj h
      rw [List.filterMap_cons, h1, fm_of f t s h2]
section CR
variable {l : Launch} {D : va_G} {cy : Nat → ClassId} {z : ZT} {cc : ByteArray} {own : String} {nL rk mc ms : Nat} {A : Nat → Prop} {Q : State → Prop} {i n : Nat} {ws : va_W} {pc : Nat} {lv : List (Nat × Value)} {st : List Value}
theorem N_iconst (C : CtX D cy z cc own nL rk mc ms A) {x : Int} {v : Int32} (hd : decode cc pc = .ok (.iconst x, 1)) (hv : Int32.ofInt x = v) (k : NW l D z nL A Q i n ws (pc + 1) lv (.int v :: st)) : NW l D z nL A Q i n ws pc lv st := fun ls H locs hl hP hD hS => lv_iconst C.1 C.2.1 hd hv (k ls H locs hl hP hD hS)
theorem N_bipush (C : CtX D cy z cc own nL rk mc ms A) {x : Int} {v : Int32} (hd : decode cc pc = .ok (.bipush x, 2)) (hv : (Int8.ofInt x).toInt32 = v) (k : NW l D z nL A Q i n ws (pc + 2) lv (.int v :: st)) : NW l D z nL A Q i n ws pc lv st := fun ls H locs hl hP hD hS => lv_bipush C.1 C.2.1 hd hv (k ls H locs hl hP hD hS)
theorem N_sipush (C : CtX D cy z cc own nL rk mc ms A) {x : Int} {v : Int32} (hd : decode cc pc = .ok (.sipush x, 3)) (hv : (Int16.ofInt x).toInt32 = v) (k : NW l D z nL A Q i n ws (pc + 3) lv (.int v :: st)) : NW l D z nL A Q i n ws pc lv st := fun ls H locs hl hP hD hS => lv_sipush C.1 C.2.1 hd hv (k ls H locs hl hP hD hS)
theorem N_aload_n (C : CtX D cy z cc own nL rk mc ms A) {k' : Fin 4} {v x : Nat} (j : Nat) (hd : decode cc pc = .ok (.aload_n k', 1)) (hi : (k' : Nat) = v) (hj : lv[j]? = some (v, .ref x)) (k : NW l D z nL A Q i n ws (pc + 1) lv (.ref x :: st)) : NW l D z nL A Q i n ws pc lv st := fun ls H locs hl hP hD hS => lv_aload_n C.1 C.2.1 hd hi (lv_at hl j hj) (k ls H locs hl hP hD hS)
theorem N_iload_n (C : CtX D cy z cc own nL rk mc ms A) {k' : Fin 4} {v : Nat} {x : Int32} (j : Nat) (hd : decode cc pc = .ok (.iload_n k', 1)) (hi : (k' : Nat) = v) (hj : lv[j]? = some (v, .int x)) (k : NW l D z nL A Q i n ws (pc + 1) lv (.int x :: st)) : NW l D z nL A Q i n ws pc lv st := fun ls H locs hl hP hD hS => lv_iload_n C.1 C.2.1 hd hi (lv_at hl j hj) (k ls H locs hl hP hD hS)
theorem N_dup (C : CtX D cy z cc own nL rk mc ms A) {va : Value} (hd : decode cc pc = .ok (.dup, 1)) (hva : va.category = 1) (k : NW l D z nL A Q i n ws (pc + 1) lv (va :: va :: st)) : NW l D z nL A Q i n ws pc lv (va :: st) := fun ls H locs hl hP hD hS => lv_dup C.1 C.2.1 hd hva (k ls H locs hl hP hD hS)
theorem N_astore_n (C : CtX D cy z cc own nL rk mc ms A) {k' : Fin 4} {v x : Nat} {lv' : List (Nat × Value)} (hd : decode cc pc = .ok (.astore_n k', 1)) (hi : (k' : Nat) = v) (hn : v < nL) (hl' : (v, Value.ref x) :: lv.filter (fun q => !(q.1 == v) && !(q.1 + 1 == v && q.2.category == 2)) = lv') (k : NW l D z nL A Q i n ws (pc + 1) lv' st) : NW l D z nL A Q i n ws pc lv (.ref x :: st) := fun ls H locs hl hP hD hS => lv_astore_n C.1 C.2.1 hd hi hl hn hl' (fun ls' h' => k ls' H locs h' hP hD hS)
theorem N_ws {ws' : va_W} (h : ws = ws') (k : NW l D z nL A Q i n ws' pc lv st) : NW l D z nL A Q i n ws pc lv st := h ▸ k
theorem N_obj (C : CtX D cy z cc own nL rk mc ms A) {idx : Nat} (hm : Cond.methodLink own idx y_Obj_init ∈ gW) {x : Nat} (hd : decode cc pc = .ok (.invokespecial idx, 3)) (hrk : 1 ≤ rk) (hst : (st.map fun v => v.category).sum ≤ 8) (k : NW l D z nL A Q i n ws (pc + 3) lv st) : NW l D z nL A Q i n ws pc lv (.ref x :: st) := fun ls H locs hl hP hD hS =>
  W.objInit C.1 C.2.1 C.2.2.2.1 (C.2.2.2.2.1 _ hm) (C.2.2.2.2.1 _ im_Obj_init) (C.2.2.2.2.1 _ co_Obj_init) rfl (by rw [C.2.2.1]; exact hl.1) rfl hd (by rw [C.2.2.2.2.2.1]; exact hrk) (by rw [C.2.2.2.2.2.1]; show 2 * 0 + _ + 12 ≤ 100 * rk; omega) (k ls H locs hl hP hD hS)
theorem N_max (C : CtX D cy z cc own nL rk mc ms A) {idx : Nat} (hm : Cond.methodLink own idx Lib.Math.max.name ∈ gW) {x y : Int32} (hi : i ≤ mc) (hn : n ≤ ms) (hd : decode cc pc = .ok (.invokestatic idx, 3)) (hrk : 1 ≤ rk) (hst : (st.map fun v => v.category).sum ≤ 8) (k : NW l D z nL A Q i n ws (pc + 3) lv (.int (if x < y then y else x) :: st)) : NW l D z nL A Q i n ws pc lv (.int y :: .int x :: st) := fun ls H locs hl hP hD hS =>
  va_mmax C.1 C.2.1 (C.2.2.1.trans hl.1.symm) C.2.2.2.1 (C.2.2.2.2.1 _ hm) (C.2.2.2.2.1 _ sm_Math_max) (C.2.2.2.2.1 _ in_Math) (C.2.2.2.2.1 _ co_Math_max) (by rw [C.2.2.2.2.2.1]; exact hrk) (by rw [C.2.2.2.2.2.1]; show _ + 13 ≤ 100 * rk; omega) (by rw [C.2.2.2.2.2.1]; exact hi) (by rw [C.2.2.2.2.2.1]; exact hn) hd (k ls H locs hl hP hD hS)
theorem N_newa (C : CtX D cy z cc own nL rk mc ms A) {atype : ArrayType} {ty : FieldType} (hty : newarray.typeOf atype = ty) (harr : Cond.arrayClass (newarray.typeOf atype) ∈ gW) (t0 : Nat) {c0 : ClassId} (ht : (tyC cy)[t0]? = some (c0, ty)) (hpr : ∀ (U : State) x, va_RA U x ty = (U.vm.findClass ("[" ++ ty.toString) = some x)) {x : Int32} (N' : Nat) {a0 : vp_A} (ha : ∀ cA : ClassId, vp_cell cA a0 = arrV cA N' (fun _ => defaultValue ty)) (hn : ¬ x < 0) (hN : x.toNatClampNeg = N') (hb : N' * componentBytes ty ≤ 536870912) (hi : i + 1 ≤ mc) (hs : n + N' ≤ ms) (hd : decode cc pc = .ok (.newarray atype, 2))
    (k : ∀ q, NW l D z nL A Q (i + 1) (n + N') (ws ++ [(q, .inl (c0, a0))]) (pc + 2) lv (.ref q :: st)) : NW l D z nL A Q i n ws pc lv (.int x :: st) := fun ls H locs hl hP hD hS =>
  va_newaC C.1 C.2.1 (C.2.2.2.2.1 _ harr) hty C.2.2.2.2.2.2.1 t0 ht (hpr _) hP hD hS C.2.2.2.2.2.2.2.2.2.2.2 ha hn hN hb (by rw [C.2.2.2.2.2.1]; exact hi) (by rw [C.2.2.2.2.2.1]; exact hs) hd (fun q H1 h1 h2 h3 => k q ls H1 locs hl h1 h2 h3)
theorem N_multi (C : CtX D cy z cc own nL rk mc ms A) {index : Nat} {t : FieldType} (hcl : Cond.classLink own index ("[" ++ (FieldType.array t).toString) ∈ gW) (hov : AOa t z.1.2.2.2) (tO tI : Nat) {cO cI : ClassId} (htO : (tyC cy)[tO]? = some (cO, .array t)) (htI : (tyC cy)[tI]? = some (cI, t)) (hpr : ∀ (U : State) x, va_RA U x t = (U.vm.findClass ("[" ++ t.toString) = some x)) (hts : (FieldType.array t).toString = "[" ++ t.toString) (hf : fits t (defaultValue t) = true) {x y : Int32} (N' K : Nat) {a0 : vp_A} (ha : vp_cell cI a0 = arrV cI K (fun _ => defaultValue t)) (hx : ¬ x < 0) (hy : ¬ y < 0) (hN : x.toNatClampNeg = N') (hKk : y.toNatClampNeg = K) (hbO : N' * 4 ≤ 536870912) (hbI : K * componentBytes t ≤ 536870912) (hlN : N' ≤ 536870912) (hlK : K ≤ 536870912) (hi : i + 1 + N' ≤ mc) (hs : n + N' + N' * K ≤ ms) (hd : decode cc pc = .ok (.multianewarray index 2, 4))
    (k : ∀ q, NW l D z nL A Q (i + 1 + N') (n + N' + N' * K) (ws ++ mEnt cO cI N' a0 q) (pc + 4) lv (.ref q :: st)) : NW l D z nL A Q i n ws pc lv (.int y :: .int x :: st) := fun ls H locs hl hP hD hS =>
  va_multi C.1 C.2.1 C.2.2.2.1 (C.2.2.2.2.1 _ hcl) hov C.2.2.2.2.2.2.1 hP hD hS C.2.2.2.2.2.2.2.2.2.2.2 tO tI htO htI (hpr _) hts hf ha hx hy hN hKk hbO hbI hlN hlK (by rw [C.2.2.2.2.2.1]; exact hi) (by rw [C.2.2.2.2.2.1]; exact hs) hd (fun q H1 locs1 h1 h2 h3 => k q ls H1 locs1 hl h1 h2 h3)
theorem N_new (C : CtX D cy z cc own nL rk mc ms A) {Cn' : String} {T : u_T} {N' ci index : Nat} (hin : ∀ w ∈ u_ws Cn' T N', w ∈ gW) (ty : Nat → FieldType) (hty : ∀ k, k < N' → parseFieldDescriptor (T k).2.2.1 = some (ty k)) (hcl : Cond.classLink own index Cn' ∈ gW) (hinst : Cond.instantiable Cn' N' ∈ gW) (hini : Cond.initialized Cn' ∈ gW) (hc : vwCl[ci]? = some (Cn', T, N')) {fs : List Value} (hfs : ∀ j, j < N' → defaultValue (ty j) = vp_V fs j) (hi : i + 1 ≤ mc) (hs : n + N' ≤ ms) (hd : decode cc pc = .ok (.new index, 3))
    (k : ∀ q, NW l D z nL A Q (i + 1) (n + N') (ws ++ [(q, .inr (ci, fs))]) (pc + 3) lv (.ref q :: st)) : NW l D z nL A Q i n ws pc lv st := fun ls H locs hl hP hD hS =>
  va_new C.1 C.2.1 C.2.2.2.2.1 hin ty hty C.2.2.2.1 (C.2.2.2.2.1 _ hcl) (C.2.2.2.2.1 _ hinst) (C.2.2.2.2.1 _ hini) C.2.2.2.2.2.2.1 hP hD hS C.2.2.2.2.2.2.2.2.2.2.2 hc hfs (by rw [C.2.2.2.2.2.1]; exact hi) (by rw [C.2.2.2.2.2.1]; exact hs) hd (fun q H1 h1 h2 h3 => k q ls H1 locs hl h1 h2 h3)
theorem N_put (C : CtX D cy z cc own nL rk mc ms A) {ref Cn' : String} {T : u_T} {N' ci index a : Nat} (hin : ∀ w ∈ u_ws Cn' T N', w ∈ gW) (ty0 : Nat → FieldType) (hty : ∀ k, k < N' → parseFieldDescriptor (T k).2.2.1 = some (ty0 k)) (hnm : ∀ a, a < N' → ∀ b, b < N' → a ≠ b → (T a).2.1 ≠ (T b).2.1) (q0 : Nat) {fs : List Value} (he : ws[q0]? = some (a, .inr (ci, fs))) (hc : vwCl[ci]? = some (Cn', T, N')) (k0 : Nat) (hk : k0 < N') (hlink : Cond.fieldLink own index ref (T k0).2.1 (T k0).2.2.1 ∈ gW) (hsame : ∀ (U : State) x, U.fieldFound? (T k0).1 (T k0).2.1 (T k0).2.2.1 = some x → U.fieldFound? ref (T k0).2.1 (T k0).2.2.1 = some x) (hfin : (T k0).2.2.2 = false) {ty : FieldType} {v : Value} (hdd : parseFieldDescriptor (T k0).2.2.1 = some ty) (hn : narrow ty v = v) (hfit : fits ty v = true) (hl0 : k0 < fs.length) (hd : decode cc pc = .ok (.putfield index, 3))
    (k : NW l D z nL A Q i n (ws.set q0 (a, .inr (ci, fs.set k0 v))) (pc + 3) lv st) : NW l D z nL A Q i n ws pc lv (v :: .ref a :: st) := fun ls H locs hl hP hD hS =>
  va_put C.1 C.2.1 C.2.2.2.2.1 hin ty0 hty hnm C.2.2.2.1 C.2.2.2.2.2.2.1 hP hD hS q0 he hc k0 hk (C.2.2.2.2.1 _ hlink) (hsame _) hfin hdd hn hfit hl0 hd (fun H1 locs1 h1 h2 h3 => k ls H1 locs1 hl h1 h2 h3)
theorem N_putF (C : CtX D cy z cc own nL rk mc ms A) {ref Cn' : String} {T : u_T} {N' ci index a : Nat} (hin : ∀ w ∈ u_ws Cn' T N', w ∈ gW) (ty0 : Nat → FieldType) (hty : ∀ k, k < N' → parseFieldDescriptor (T k).2.2.1 = some (ty0 k)) (hnm : ∀ a, a < N' → ∀ b, b < N' → a ≠ b → (T a).2.1 ≠ (T b).2.1) (q0 : Nat) {fs : List Value} (he : ws[q0]? = some (a, .inr (ci, fs))) (hc : vwCl[ci]? = some (Cn', T, N')) (k0 : Nat) (hk : k0 < N') (hlink : Cond.fieldLink own index ref (T k0).2.1 (T k0).2.2.1 ∈ gW) (hsame : ∀ (U : State) x, U.fieldFound? (T k0).1 (T k0).2.1 (T k0).2.2.1 = some x → U.fieldFound? ref (T k0).2.1 (T k0).2.2.1 = some x) (hfin : (T k0).2.2.2 = true) (hdecl : (T k0).1 = own) {ty : FieldType} {v : Value} (hdd : parseFieldDescriptor (T k0).2.2.1 = some ty) (hn : narrow ty v = v) (hfit : fits ty v = true) (hl0 : k0 < fs.length) (hd : decode cc pc = .ok (.putfield index, 3))
    (k : NW l D z nL A Q i n (ws.set q0 (a, .inr (ci, fs.set k0 v))) (pc + 3) lv st) : NW l D z nL A Q i n ws pc lv (v :: .ref a :: st) := fun ls H locs hl hP hD hS =>
  va_putF C.1 C.2.1 C.2.2.2.2.1 hin ty0 hty hnm C.2.2.2.1 C.2.2.2.2.2.2.1 hP hD hS q0 he hc k0 hk (C.2.2.2.2.1 _ hlink) (hsame _) hfin C.2.2.2.2.2.2.2.2.2.2.1 hdecl hdd hn hfit hl0 hd (fun H1 locs1 h1 h2 h3 => k ls H1 locs1 hl h1 h2 h3)
theorem N_iast (C : CtX D cy z cc own nL rk mc ms A) (q0 : Nat) {a m0 : Nat} {f : Nat → Int32} (he : ws[q0]? = some (a, .inl (cy 0, m0, .inl f))) {j x : Int32} (hin : vp_in j m0) (hd : decode cc pc = .ok (.iastore, 1))
    (k : NW l D z nL A Q i n (ws.set q0 (a, .inl (cy 0, m0, .inl (upd f j.toNatClampNeg x)))) (pc + 1) lv st) : NW l D z nL A Q i n ws pc lv (.int x :: .int j :: .ref a :: st) := fun ls H locs hl hP hD hS =>
  va_iast C.1 C.2.1 C.2.2.2.2.2.2.1 hP hD hS q0 0 he rfl hin hd (fun H1 locs1 h1 h2 h3 => k ls H1 locs1 hl h1 h2 h3)
theorem N_ret (C : CtX D cy z cc own nL rk mc ms A) {ws0 : va_W} {ws' : (Nat → Nat) → va_W} (a : Nat → Nat) (is : List Nat) (hw : is.map (fun i => ws[i]?) = (ws' a).map some) (hnd : va_nd is = true) (hi : i ≤ mc) (hn : n ≤ ms) (hA : A = va_A ws0 z.1.2.2.2.heap.size) (hd : decode cc pc = .ok (.return_, 1)) (hQ : Q = NQ D z mc ms z.1.2.2.2.heap.size ws0 ws') : NW l D z nL A Q i n ws pc lv [] := fun ls H locs hl hP hD hS => by
  subst hA hQ
  refine W.widen (k := mc) (n := ms) hi hn ?_
  exact W.vret C.1 C.2.1 C.2.2.2.2.2.2.2.2.2.1 (fun t ht hW => ⟨⟨a, rfl, trivial, by rw [ht]; exact hP.sub is (fm_of _ _ _ hw), hD.sub is hnd hw⟩, hS.F ht⟩) hS.2.2 hd C.2.2.2.2.2.2.2.2.1
theorem N_newq (C : CtX D cy z cc own nL rk mc ms A) {index : Nat} (hcl : Cond.classLink own index "BesideTom$PupilKind" ∈ gW) {x : Int32} (N' : Nat) (hn : ¬ x < 0) (hN : x.toNatClampNeg = N') (hb : N' * 4 ≤ 536870912) (hi : i + 1 ≤ mc) (hs : n + N' ≤ ms) (hd : decode cc pc = .ok (.anewarray index, 3))
    (k : ∀ q, NW l D z nL A Q (i + 1) (n + N') (ws ++ [(q, .inl (cy 6, N', .inr (.inr (.inr (.inr (fun _ => none))))))]) (pc + 3) lv (.ref q :: st)) : NW l D z nL A Q i n ws pc lv (.int x :: st) := fun ls H locs hl hP hD hS =>
  va_newq C.1 C.2.1 C.2.2.2.1 (C.2.2.2.2.1 _ hcl) C.2.2.2.2.2.2.2.1.2.2.1 C.2.2.2.2.2.2.1 hP hD hS C.2.2.2.2.2.2.2.2.2.2.2 hn hN hb (by rw [C.2.2.2.2.2.1]; exact hi) (by rw [C.2.2.2.2.2.1]; exact hs) hd (fun q cA H1 hK1 h1 h2 h3 => by
    obtain ⟨_, _, _, _, _, r0⟩ := (C.2.2.2.2.2.2.1.2 6 _ rfl).2
    obtain ⟨_, _, _, _, _, r1⟩ := (hK1.2 7 (cA, .object "BesideTom$PupilKind") rfl).2
    cases r0.symm.trans r1
    exact k q ls H1 locs hl h1 h2 h3)
theorem N_astq (C : CtX D cy z cc own nL rk mc ms A) (q0 qk ci : Nat) {r : vw_C} {a m0 v : Nat} {vs : List Value} {f : Nat → Option Nat} (he : ws[q0]? = some (a, .inl (cy 6, m0, .inr (.inr (.inr (.inr f)))))) (hca : r.1 ∈ castC) (hv : ws[qk]? = some (v, .inr (ci, vs))) (hc : vwCl[ci]? = some r) {j : Int32} (hin : vp_in j m0) (hd : decode cc pc = .ok (.aastore, 1))
    (k : NW l D z nL A Q i n (ws.set q0 (a, .inl (cy 6, m0, .inr (.inr (.inr (.inr (va_up f j.toNatClampNeg (some v)))))))) (pc + 1) lv st) : NW l D z nL A Q i n ws pc lv (.ref v :: .int j :: .ref a :: st) := fun ls H locs hl hP hD hS =>
  va_astqO C.1 C.2.1 C.2.2.2.2.2.2.1 hP hD hS q0 6 qk ci he rfl (C.2.2.2.2.2.2.2.1.2.2.2.2 _ hca) hv hc hin hd (fun H1 locs1 h1 h2 h3 => k ls H1 locs1 hl h1 h2 h3)
theorem N_astq0 (C : CtX D cy z cc own nL rk mc ms A) (q0 qk ci : Nat) {r : vw_C} {a m0 v : Nat} {vs : List Value} {f : Nat → Option Nat} (he : ws[q0]? = some (a, .inl (cy 6, m0, .inr (.inr (.inr (.inr f)))))) (hca : r.1 = "BesideTom$PupilKind") (hv : ws[qk]? = some (v, .inr (ci, vs))) (hc : vwCl[ci]? = some r) {j : Int32} (hin : vp_in j m0) (hd : decode cc pc = .ok (.aastore, 1))
    (k : NW l D z nL A Q i n (ws.set q0 (a, .inl (cy 6, m0, .inr (.inr (.inr (.inr (va_up f j.toNatClampNeg (some v)))))))) (pc + 1) lv st) : NW l D z nL A Q i n ws pc lv (.ref v :: .int j :: .ref a :: st) := fun ls H locs hl hP hD hS =>
  va_astq C.1 C.2.1 C.2.2.2.2.2.2.1 hP hD hS q0 6 qk ci he (by rw [hca]; rfl) hv hc hin hd (fun H1 locs1 h1 h2 h3 => k ls H1 locs1 hl h1 h2 h3)
theorem N_callA (C : CtX D cy z cc own nL rk mc ms A) {y : MethodName} {cc' : ByteArray} {maxL' rk' mc' ms' idx nA b : Nat} {As stA : List Value} {wc wr : va_W} {wc' : (Nat → Nat) → va_W} (F : CF y cc' maxL' none nA) (hname : y.name = "<init>") (hc : Cn l D cy y cc' maxL' rk' mc' ms' (.ref b :: As) wc wc') (hm : Cond.methodLink own idx y ∈ gW ∨ va_Nw (.methodLinkNest own idx y "BesideTom") z.1.2.2.2) (him : Cond.instanceMethod y ∈ gW) (hlen : As.length = nA) (isC isR : List Nat) (hC : isC.map (fun i => ws[i]?) = wc.map some) (hR : isR.map (fun i => ws[i]?) = wr.map some) (hn : va_nd isR = true) (hdC : va_nd isC = true) (hdis : ∀ i ∈ isR, i ∉ isC) (hrk : rk' + 1 ≤ rk) (hmx : maxL' ≤ 80) (hi : i + mc' ≤ mc) (hs : n + ms' ≤ ms) (hstA : stA = As.reverse ++ .ref b :: st) (hst : (st.map fun v => v.category).sum ≤ 8) (hd : decode cc pc = .ok (.invokespecial idx, 3))
    (k : ∀ a, NW l D z nL A Q (i + mc') (n + ms') (wr ++ wc' a) (pc + 3) lv st) : NW l D z nL A Q i n ws pc lv stA := fun ls H locs hl hP hD hS => by
  subst hstA
  have hPc := hP.sub isC (fm_of _ _ _ hC)
  have hDc := hD.sub isC hdC hC
  have hA := C.2.2.2.2.2.2.2.2.2.2.2
  have hFc := va_free hD hS hA isC hC
  have hK := C.2.2.2.2.2.2.1
  have hE := C.2.2.2.2.2.2.2.1
  have hts := C.2.2.2.2.1
  have hG : GoodIn gW (wsG y cc' maxL' none) := gG (fun _ h => h) F.1 [] (fun w h => by cases h)
  have hrm : (rmC rk' mc' ms').frames + 1 ≤ z.1.2.2.1.frames ∧ 8 + (maxL' + 11) + (rmC rk' mc' ms').locals ≤ z.1.2.2.1.locals := by
    rw [C.2.2.2.2.2.1]
    show rk' + 1 ≤ rk ∧ 8 + (maxL' + 11) + 100 * rk' ≤ 100 * rk
    omega
  have hpre : PreS z.1.2.2.2 H (va_Pc (.ref b :: As) (PN D cy H.size wc)) (.ref b :: As) := ⟨fun a U g mk q => by
    obtain ⟨q0, q1, qP, qK, qD, qE⟩ := q
    exact ⟨q0, q1, qP, va_K.moved (u := U) (U := U.calling g mk a) (Vm.Alike.refl U.vm) qK, qD, qE.same rfl⟩, fun U hU hW => ⟨rfl, by rw [hU], by rw [hU]; exact hPc, va_K.moved hW.alike hK, hDc.weaken (fun _ _ _ _ => trivial), hE.warm hW⟩⟩
  have hfit : i + mc' ≤ z.1.2.2.1.cells ∧ n + ms' ≤ z.1.2.2.1.slots := by
    rw [C.2.2.2.2.2.1]
    exact ⟨hi, hs⟩
  have hrun := (hm.elim (fun h => va_runI (As := As) (rest := st) (g := F0 z.2.1 pc ls (As.reverse ++ .ref b :: st)) ⟨C.1, C.2.1, C.2.2.1, C.2.2.2.1, hts⟩ (hc H.size) (cwI nA hts hG rfl rfl rfl (hts _ F.2.1) (hts _ h) (hts _ him) hname ⟨F.2.2.1.1, F.2.2.1.2, F.2.2.2⟩ hrm) hpre rfl hlen hl.1 rfl (lv_room hst) hd hfit)
    (fun h => va_runIN (As := As) (rest := st) (g := F0 z.2.1 pc ls (As.reverse ++ .ref b :: st)) ⟨C.1, C.2.1, C.2.2.1, C.2.2.2.1, hts⟩ (hc H.size) ⟨va_cnB nA hts hG rfl rfl rfl h (hts _ F.2.1) ⟨F.2.2.1.1, F.2.2.1.2, F.2.2.2⟩ hrm, hname, hts _ him⟩ hpre rfl hlen hl.1 rfl (lv_room hst) hd hfit) :
    va_Run z.1.1 l z.1.2.1 z.1.2.2.1 z.1.2.2.2 z.2.1 z.2.2.1 z.2.2.2.1 z.2.2.2.2.1 z.2.2.2.2.2 H locs i n mc' ms' (F0 z.2.1 pc ls (As.reverse ++ .ref b :: st)) st _ _)
  refine va_callv hrun hS (fun q _ h => hFc q h) hFc (fun u t H1 locs1 ht hvm h5 hB hz1 hk1 hS1 => ?_)
  obtain ⟨hP1, hD1⟩ := hB
  rw [ht] at hP1
  obtain ⟨hP2, hD2⟩ := va_join hP hD isC isR hC hR hn hdis hk1 hFc hP1 hD1
  exact k u ls H1 locs1 hl hP2 hD2 hS1
end CR
