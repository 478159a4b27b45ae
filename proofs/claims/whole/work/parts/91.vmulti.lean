/-! in a world: an array of arrays -/
theorem mOut_v (c b n : Nat) : ∀ i, mOut c b n i = { cls := c, slots := (mOut c b n i).slots }
  | 0 => rfl
  | i + 1 => by
    have ih := mOut_v c b n i
    show (mOut c b n i).setSlot i (.ref (b + 1 + i)) = _
    rw [ih]
    rfl
theorem mOut_arr (c b n : Nat) : mOut c b n n = arrV c n (fun j => va_rf (some (b + 1 + j))) := by
  rw [mOut_v]
  show (⟨c, _, _, _, _⟩ : Cell) = ⟨c, _, _, _, _⟩
  congr 1
  apply Array.ext_getElem?
  intro j
  by_cases hj : j < n
  · rw [mOut_at c b n n j hj, if_pos hj]
    simp [hj, va_rf]
  · rw [Array.getElem?_eq_none (by rw [(mOut_f c b n n).2.2]; omega), Array.getElem?_eq_none (by simp; omega)]
def mEnt (cO cI : ClassId) (N : Nat) (a0 : vp_A) (q : Nat) : va_W := (List.range (N + 1)).map (fun i => (q + i, if i = 0 then .inl (cO, N, .inr (.inr (.inr (.inr (fun j => some (q + 1 + j)))))) else .inl (cI, a0)))
theorem mEnt_at {cO cI : ClassId} {N : Nat} {a0 : vp_A} {q k : Nat} {x : Nat × va_E} (h : (mEnt cO cI N a0 q)[k]? = some x) : k < N + 1 ∧ x = (q + k, if k = 0 then .inl (cO, N, .inr (.inr (.inr (.inr (fun j => some (q + 1 + j)))))) else .inl (cI, a0)) := by
  have hl : k < (mEnt cO cI N a0 q).length := (List.getElem?_eq_some_iff.mp h).1
  have hk : k < N + 1 := by
    have : (mEnt cO cI N a0 q).length = N + 1 := by simp [mEnt]
    omega
  refine ⟨hk, ?_⟩
  unfold mEnt at h
  rw [List.getElem?_map, List.getElem?_range hk] at h
  exact (Option.some.inj h).symm
def AOa (t : FieldType) (U : State) : Prop := ∃ (comp cA : ClassId) (kA : Class), U.vm.findClass (FieldType.array t).toString = some comp ∧ U.vm.classes[cA]? = some kA ∧ kA.kind = .array comp (.array t) ∧ U.vm.findClass ("[" ++ (FieldType.array t).toString) = some cA
theorem AOa.moved {t : FieldType} {u U : State} (hvm : u.vm.Alike U.vm) (h : AOa t u) : AOa t U := by
  obtain ⟨comp, cA, kA, h1, h2, h3, h4⟩ := h
  obtain ⟨k', hk', he⟩ := hvm.2.2 _ _ h2
  exact ⟨comp, cA, k', by rw [hvm.findClass]; exact h1, hk', by rw [he]; exact h3, by rw [hvm.findClass]; exact h4⟩
theorem AOa.of {t : FieldType} {A : Array Value} {U : State} (h : (Cond.arrayOver (.array t)).before A U = true) : AOa t U := by
  obtain ⟨comp, cA, kA, hcomp, -, hkA, hkindA, hnameA⟩ := arrayOverA_spec h
  exact ⟨comp, cA, kA, hcomp, hkA, hkindA, hnameA⟩
section VM
variable {p : Program} {l : Launch} {e : Env} {R : Room} {s : State} {m : MethodId} {args : Array Value} {below : List Frame} {meth : Method} {c : Code} {H : Heap} {locs : List Loc} {cells slots : Nat} {Q : State → Prop} {D : va_G} {cl : List vw_C} {tys : List (ClassId × FieldType)} {ws : va_W} {A : Nat → Prop} {H0 : Heap} {cc : ByteArray} {pc : Nat} {ls : Array Slot} {rest : List Value}
theorem va_newaC (hexec : p.tables.exec = Jvm.exec) (hb : c.code = cc) {atype : ArrayType} (harr : (Cond.arrayClass (newarray.typeOf atype)).before args s = true) {ty : FieldType} (hty : newarray.typeOf atype = ty) (hK : va_K D cl tys s) (t0 : Nat) {c0 : ClassId} (ht : tys[t0]? = some (c0, ty)) (hpr : ∀ x, va_RA s x ty = (s.vm.findClass ("[" ++ ty.toString) = some x)) (hP : va_P D cl ws H) (hD : va_D A ws) (hS : va_S A H0 H locs) (hA : ∀ q, H0.size ≤ q → A q)
    {n : Int32} {N' : Nat} {a0 : vp_A} (ha : ∀ cA : ClassId, vp_cell cA a0 = arrV cA N' (fun _ => defaultValue ty)) (hn : ¬ n < 0) (hN : n.toNatClampNeg = N') (hbytes : N' * componentBytes ty ≤ 536870912) (hcells : cells + 1 ≤ R.cells) (hslots : slots + N' ≤ R.slots) (hdg : decode cc pc = .ok (.newarray atype, 2))
    (kk : ∀ (q : Nat) (H1 : Heap), va_P D cl (ws ++ [(q, .inl (c0, a0))]) H1 → va_D A (ws ++ [(q, .inl (c0, a0))]) → va_S A H0 H1 locs →
      W p l e R s m args below meth c H1 locs (cells + 1) (slots + N') Q (F0 m (pc + 2) ls (.ref q :: rest))) : W p l e R s m args below meth c H locs cells slots Q (F0 m pc ls (.int n :: rest)) := by
  refine va_newa hexec hb harr hty hK hP hD hS hA ha hn hN hbytes hcells hslots hdg (fun q cA H1 hK1 hP1 hD1 hS1 => ?_)
  have r0 := (hK.2 t0 _ ht).2
  have r1 := (hK1.2 tys.length (cA, ty) (by rw [List.getElem?_append_right (Nat.le_refl _), Nat.sub_self]; rfl)).2
  rw [hpr] at r0 r1
  cases r0.symm.trans r1
  exact kk q H1 hP1 hD1 hS1
theorem va_multi (hexec : p.tables.exec = Jvm.exec) (hb : c.code = cc) {own : String} {index : Nat} {t : FieldType} (hown : s.vm.findClass own = some m.cls) (hclink : (Cond.classLink own index ("[" ++ (FieldType.array t).toString)).before args s = true) (hover : AOa t s) (hK : va_K D cl tys s) (hP : va_P D cl ws H) (hD : va_D A ws) (hS : va_S A H0 H locs) (hA : ∀ q, H0.size ≤ q → A q) (tO tI : Nat) {cO cI : ClassId} (htO : tys[tO]? = some (cO, .array t)) (htI : tys[tI]? = some (cI, t)) (hpr : ∀ x, va_RA s x t = (s.vm.findClass ("[" ++ t.toString) = some x)) (hts : (FieldType.array t).toString = "[" ++ t.toString) (hf : fits t (defaultValue t) = true)
    {n k : Int32} {N K : Nat} {a0 : vp_A} (ha : vp_cell cI a0 = arrV cI K (fun _ => defaultValue t)) (hn : ¬ n < 0) (hk : ¬ k < 0) (hN : n.toNatClampNeg = N) (hKk : k.toNatClampNeg = K) (hbO : N * 4 ≤ 536870912) (hbI : K * componentBytes t ≤ 536870912) (hlN : N ≤ 536870912) (hlK : K ≤ 536870912) (hcells : cells + 1 + N ≤ R.cells) (hslots : slots + N + N * K ≤ R.slots) (hdg : decode cc pc = .ok (.multianewarray index 2, 4))
    (kk : ∀ (q : Nat) (H1 : Heap) (locs1 : List Loc), va_P D cl (ws ++ mEnt cO cI N a0 q) H1 → va_D A (ws ++ mEnt cO cI N a0 q) → va_S A H0 H1 locs1 →
      W p l e R s m args below meth c H1 locs1 (cells + 1 + N) (slots + N + N * K) Q (F0 m (pc + 4) ls (.ref q :: rest))) : W p l e R s m args below meth c H locs cells slots Q (F0 m pc ls (.int k :: .int n :: rest)) := by
  subst hN hKk
  obtain ⟨comp, cA, kA, hcomp, hkA, hkindA, hnameA⟩ := hover
  have rO : s.vm.findClass ("[" ++ (FieldType.array t).toString) = some cO := (hK.2 tO _ htO).2
  have rI := (hK.2 tI _ htI).2
  rw [hpr] at rI
  cases hnameA.symm.trans rO
  rw [hts] at hcomp
  cases hcomp.symm.trans rI
  obtain ⟨-, kI, hkI, compI, hkindI⟩ := (hK.2 tI _ htI).1 0 (fun _ => .null)
  refine W_multi hexec hb hown hclink rO hkA hkindA (fun _ => rfl) rfl hkI hkindI hf rfl hdg rfl hn hk hbO hbI hlN hlK hcells hslots (fun H1 locs' x1 x2 x3 x4 x5 => ?_)
  have hk' : ∀ (i : Nat) (x : Nat × va_E), ws[i]? = some x → H1[x.1]? = H[x.1]? := fun i x hx => x4 x.1 ((hP i x hx).lt)
  refine kk H.size H1 (locs ++ locs') ((hP.kept hk').app (fun i x hx => ?_)) ⟨fun i j x y hi hj hxy => ?_, fun i x hx => ?_⟩ ⟨Nat.le_trans hS.1 (by omega), fun x h1 h2 => (x4 x (Nat.lt_of_lt_of_le h1 hS.1)).trans (hS.2.1 x h1 h2), fun q hq => ?_⟩
  · obtain ⟨h1, rfl⟩ := mEnt_at hx
    by_cases i0 : i = 0
    · subst i0
      rw [if_pos rfl, Nat.add_zero]
      show H1[H.size]? = some (vp_cell cO (n.toNatClampNeg, .inr (.inr (.inr (.inr (fun j => some (H.size + 1 + j)))))))
      rw [vp_cell_q, x3, mOut_arr]
    · rw [if_neg i0]
      show H1[H.size + i]? = some (vp_cell cI a0)
      have := x5 (i - 1) (by omega)
      rw [show H.size + 1 + (i - 1) = H.size + i by omega] at this
      rw [this, ha, ← arrV_new]
      rfl
  · have low : ∀ (a : Nat) (z : Nat × va_E), a < ws.length → (ws ++ mEnt cO cI n.toNatClampNeg a0 H.size)[a]? = some z → ws[a]? = some z ∧ z.1 < H.size := fun a z hl hz => by
      rw [List.getElem?_append_left hl] at hz
      exact ⟨hz, (hP a z hz).lt⟩
    have high : ∀ (a : Nat) (z : Nat × va_E), ¬ a < ws.length → (ws ++ mEnt cO cI n.toNatClampNeg a0 H.size)[a]? = some z → z.1 = H.size + (a - ws.length) := fun a z hl hz => by
      rw [List.getElem?_append_right (by omega)] at hz
      rw [(mEnt_at hz).2]
    by_cases a1 : i < ws.length
    · obtain ⟨b1, b2⟩ := low i x a1 hi
      by_cases a2 : j < ws.length
      · exact hD.1 i j x y b1 (low j y a2 hj).1 hxy
      · have := high j y a2 hj
        omega
    · have b1 := high i x a1 hi
      by_cases a2 : j < ws.length
      · have := (low j y a2 hj).2
        omega
      · have := high j y a2 hj
        omega
  · by_cases a1 : i < ws.length
    · rw [List.getElem?_append_left a1] at hx
      exact hD.2 i x hx
    · rw [List.getElem?_append_right (by omega)] at hx
      rw [(mEnt_at hx).2]
      exact hA _ (Nat.le_trans hS.1 (Nat.le_add_right _ _))
  · rcases List.mem_append.mp hq with q1 | q1
    · exact hS.2.2 q q1
    · rw [x1 q q1]
      exact hA _ hS.1
end VM
