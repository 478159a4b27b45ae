/-! "chathushwearcost".charAt(i), by the JDK's own methods -/
theorem dp_0 : decode prog_21_method_11_code 0 = .ok (.iload_n 0, 1) := by decide +kernel
theorem dp_1 : decode prog_21_method_11_code 1 = .ok (.ifCond .lt 8, 3) := by decide +kernel
theorem dp_4 : decode prog_21_method_11_code 4 = .ok (.iload_n 0, 1) := by decide +kernel
theorem dp_5 : decode prog_21_method_11_code 5 = .ok (.iload_n 1, 1) := by decide +kernel
theorem dp_6 : decode prog_21_method_11_code 6 = .ok (.if_icmp .lt 10, 3) := by decide +kernel
theorem dp_16 : decode prog_21_method_11_code 16 = .ok (.iload_n 0, 1) := by decide +kernel
theorem dp_17 : decode prog_21_method_11_code 17 = .ok (.ireturn, 1) := by decide +kernel
theorem dc_0 : decode prog_17_method_155_code 0 = .ok (.iload_n 0, 1) := by decide +kernel
theorem dc_1 : decode prog_17_method_155_code 1 = .ok (.iload_n 1, 1) := by decide +kernel
theorem dc_2 : decode prog_17_method_155_code 2 = .ok (.getstatic 1053, 3) := by decide +kernel
theorem dc_5 : decode prog_17_method_155_code 5 = .ok (.invokestatic 1059, 3) := by decide +kernel
theorem dc_8 : decode prog_17_method_155_code 8 = .ok (.pop, 1) := by decide +kernel
theorem dc_9 : decode prog_17_method_155_code 9 = .ok (.return_, 1) := by decide +kernel
theorem dl_0 : decode prog_18_method_2_code 0 = .ok (.iload_n 1, 1) := by decide +kernel
theorem dl_1 : decode prog_18_method_2_code 1 = .ok (.aload_n 0, 1) := by decide +kernel
theorem dl_2 : decode prog_18_method_2_code 2 = .ok (.arraylength, 1) := by decide +kernel
theorem dl_3 : decode prog_18_method_2_code 3 = .ok (.invokestatic 9, 3) := by decide +kernel
theorem dl_6 : decode prog_18_method_2_code 6 = .ok (.aload_n 0, 1) := by decide +kernel
theorem dl_7 : decode prog_18_method_2_code 7 = .ok (.iload_n 1, 1) := by decide +kernel
theorem dl_8 : decode prog_18_method_2_code 8 = .ok (.baload, 1) := by decide +kernel
theorem dl_9 : decode prog_18_method_2_code 9 = .ok (.sipush 255, 3) := by decide +kernel
theorem dl_12 : decode prog_18_method_2_code 12 = .ok (.iand, 1) := by decide +kernel
theorem dl_13 : decode prog_18_method_2_code 13 = .ok (.i2c, 1) := by decide +kernel
theorem dl_14 : decode prog_18_method_2_code 14 = .ok (.ireturn, 1) := by decide +kernel
theorem di_0 : decode prog_17_method_154_code 0 = .ok (.getstatic 38, 3) := by decide +kernel
theorem di_3 : decode prog_17_method_154_code 3 = .ok (.ifCond .eq 14, 3) := by decide +kernel
theorem di_6 : decode prog_17_method_154_code 6 = .ok (.aload_n 0, 1) := by decide +kernel
theorem di_7 : decode prog_17_method_154_code 7 = .ok (.getfield 15, 3) := by decide +kernel
theorem di_10 : decode prog_17_method_154_code 10 = .ok (.ifCond .ne 7, 3) := by decide +kernel
theorem di_13 : decode prog_17_method_154_code 13 = .ok (.iconst 1, 1) := by decide +kernel
theorem di_14 : decode prog_17_method_154_code 14 = .ok (.goto 4, 3) := by decide +kernel
theorem di_18 : decode prog_17_method_154_code 18 = .ok (.ireturn, 1) := by decide +kernel
theorem dh_0 : decode prog_17_method_56_code 0 = .ok (.aload_n 0, 1) := by decide +kernel
theorem dh_1 : decode prog_17_method_56_code 1 = .ok (.invokevirtual 492, 3) := by decide +kernel
theorem dh_4 : decode prog_17_method_56_code 4 = .ok (.ifCond .eq 12, 3) := by decide +kernel
theorem dh_7 : decode prog_17_method_56_code 7 = .ok (.aload_n 0, 1) := by decide +kernel
theorem dh_8 : decode prog_17_method_56_code 8 = .ok (.getfield 9, 3) := by decide +kernel
theorem dh_11 : decode prog_17_method_56_code 11 = .ok (.iload_n 1, 1) := by decide +kernel
theorem dh_12 : decode prog_17_method_56_code 12 = .ok (.invokestatic 495, 3) := by decide +kernel
theorem dh_15 : decode prog_17_method_56_code 15 = .ok (.ireturn, 1) := by decide +kernel
section CH
variable {β : Type} {q : QT} {z : ZT} {cc : ByteArray} {own : String} {nL rk : Nat} {ret : Option FieldType} {φ : β → Option Value × Mm × Ml} {f : Option β} {μ : Mm} {ν : Ml} {pc : Nat} {lv : List (Nat × Value)} {st : List Value}
variable {y : MethodName} {cy' : ByteArray} {maxL n rk' index : Nat} {rt : Option FieldType} {As av : List Value} {v : Option Value} {μ' : Mm} {ν' : Ml} {stk : List Value}
theorem w_Pre_checkIndex {i n : Int32} {fm : Value} (C : Ctx sdX q z prog_21_method_11_code "jdk/internal/util/Preconditions" 3 0 (some (FieldType.int))) : R sdX q z 3 (φI μ ν) (if i < 0 then none else if i < n then some i else none) μ ν 0 [(0, .int i), (1, .int n), (2, fm)] [] := by
  refine R_iload_n C 0 dp_0 rfl rfl ?_
  refine R_if_lt C dp_1 (tgt := 9) (by decide) R_none ?_
  refine R_iload_n C 0 dp_4 rfl rfl ?_
  refine R_iload_n C 1 dp_5 rfl rfl ?_
  refine R_icmp_lt C dp_6 (tgt := 16) (by decide) ?_ R_none
  refine R_iload_n C 0 dp_16 rfl rfl ?_
  exact R_iret C rfl dp_17
theorem c_Pre_checkIndex (hg : GOk sdX q) {i n : Int32} {fm : Value} (hf : fm = .null ∨ ∃ t, fm = .ref t) {o : Int32} (ho : (if i < 0 then none else if i < n then some i else none) = some o) : Ct sdX q y_Pre_checkIndex prog_21_method_11_code 3 (some (FieldType.int)) 0 [.int i, .int n, fm] μ ν (φI μ ν o).1 (φI μ ν o).2.1 (φI μ ν o).2.2 := by
  rcases hf with rfl | ⟨t, rfl⟩
  · exact Ct_of rfl hg (fun z C => w_Pre_checkIndex C) (Nat.le_of_ble_eq_true rfl) ho
  · exact Ct_of rfl hg (fun z C => w_Pre_checkIndex C) (Nat.le_of_ble_eq_true rfl) ho
theorem w_Str_checkIndex {i n : Int32} (C : Ctx sdX q z prog_17_method_155_code "java/lang/String" 2 1 none) : R sdX q z 2 (φV μ ν) ((if i < 0 then none else if i < n then some i else none).bind fun _ => some ()) μ ν 0 [(0, .int i), (1, .int n)] [] := by
  refine R_iload_n C 0 dc_0 rfl rfl ?_
  refine R_iload_n C 1 dc_1 rfl rfl ?_
  obtain ⟨fm, hf, hZ⟩ : ∃ fm : Value, (fm = .null ∨ ∃ t, fm = .ref t) ∧ va_Z "jdk/internal/util/Preconditions" "SIOOBE_FORMATTER" "Ljava/util/function/BiFunction;" fm (AA sdX q z.1.2.2.2.heap.size) z.1.2.2.2 z.1.2.2.2.heap := by
    rcases C.2.2.2.2.2.2.2.1.2.2.2.2.2.1 with h | ⟨t, h⟩
    · exact ⟨.null, Or.inl rfl, h⟩
    · exact ⟨.ref t, Or.inr ⟨t, rfl⟩, h⟩
  have K : R sdX q z 2 (φV μ ν) ((if i < 0 then none else if i < n then some i else none).bind fun _ => some ()) μ ν 5 [(0, .int i), (1, .int n)] [fm, .int n, .int i] := by
    refine R_bind (fun o ho => ?_)
    refine R_callS C cf_Pre_checkIndex ml_Str_1059 sm_Pre_checkIndex (c_Pre_checkIndex (gk C) hf ho) (by decide) (by decide) rfl rfl (Nat.le_of_ble_eq_true rfl) dc_5 ?_
    refine R_pop C dc_8 rfl ?_
    exact R_vret C rfl dc_9
  exact fun out ho ls H locs hl hP hS => va_gets C.1 C.2.1 hZ hS C.2.2.2.1 (C.2.2.2.2.1 _ fl_Str_1053) (fun _ h => h) dc_2 (K out ho ls H locs hl hP hS)
theorem c_Str_checkIndex (hg : GOk sdX q) {i n : Int32} {o : Unit} (ho : ((if i < 0 then none else if i < n then some i else none).bind fun _ => some ()) = some o) : Ct sdX q y_Str_checkIndex prog_17_method_155_code 2 none 1 [.int i, .int n] μ ν (φV μ ν o).1 (φV μ ν o).2.1 (φV μ ν o).2.2 := Ct_of rfl hg (fun z C => w_Str_checkIndex C) (Nat.le_of_ble_eq_true rfl) ho
theorem R_cret (C : Ctx sdX q z cc own nL rk (some .char)) {b : β} {v : Int32} (hv : narrow .char (.int v) = .int v) (hφ : φ b = (some (.int v), μ, ν)) (hd : decode cc pc = .ok (.ireturn, 1)) : R sdX q z nL φ (some b) μ ν pc lv [.int v] := by
  intro out ho ls H locs hl hP hS
  cases ho
  unfold Qz
  rw [hφ]
  exact W.zret C.1 C.2.1 C.2.2.2.2.2.2.2.2.2.1 hv (fun t ht _ => ⟨rfl, by rw [ht]; exact hP, hS.F ht⟩) hS.2.2 hd C.2.2.2.2.2.2.2.2.1
def F_Str_charAt (i : Int32) : Option Int32 := rdI wordT 16 i
theorem ch_16 : ∀ j, j < 16 → ((wordT j &&& 255).toUInt32 % 65536).toInt32 = wordT j ∧ narrow .char (.int (wordT j)) = .int (wordT j) := by decide +kernel
theorem w_SL1_charAt {i : Int32} (C : Ctx sdX q z prog_18_method_2_code "java/lang/StringLatin1" 2 2 (some (FieldType.char))) : R sdX q z 2 (φI μ ν) (F_Str_charAt i) μ ν 0 [(0, .ref (q.2.2.1 1002)), (1, .int i)] [] := by
  unfold F_Str_charAt rdI
  refine R_ite (fun _ => R_none) (fun h1 => ?_)
  have h2 : ¬ i < 0 := fun h => h1 (Or.inl h)
  have h3 : i.toNatClampNeg < 16 := Nat.not_le.mp (fun h => h1 (Or.inr h))
  have h4 : i < 16 := by
    rcases nI_of h2 with ⟨j, hj, rfl⟩
    rw [nI_clamp hj] at h3
    exact nI_lt h3 (by decide)
  have hT : va_T .byte (q.2.2.1 1002) 16 (fun j => .int (wordT j)) (AA sdX q z.1.2.2.2.heap.size) z.1.2.2.2 z.1.2.2.2.heap := (C.2.2.2.2.2.2.2.1.2.2.2.1.1 0 (by decide)).2.2.2
  refine R_iload_n C 1 dl_0 rfl rfl ?_
  refine R_aload_n C 0 dl_1 rfl rfl ?_
  have K : R sdX q z 2 (φI μ ν) (some (wordT i.toNatClampNeg)) μ ν 3 [(0, .ref (q.2.2.1 1002)), (1, .int i)] [.int 16, .int i] := by
    refine R_callS C cf_Str_checkIndex ml_SL1_9 sm_Str_checkIndex (c_Str_checkIndex (gk C) (o := ()) (by rw [if_neg h2, if_pos h4]; rfl)) (by decide) (by decide) rfl rfl (Nat.le_of_ble_eq_true rfl) dl_3 ?_
    refine R_aload_n C 0 dl_6 rfl rfl ?_
    refine R_iload_n C 1 dl_7 rfl rfl ?_
    have K2 : R sdX q z 2 (φI μ ν) (some (wordT i.toNatClampNeg)) μ ν 9 [(0, .ref (q.2.2.1 1002)), (1, .int i)] [.int (wordT i.toNatClampNeg)] := by
      refine R_sipush C dl_9 (v := 255) (by decide +kernel) ?_
      refine R_iand C dl_12 ?_
      refine R_i2c C dl_13 ?_
      rw [(ch_16 _ h3).1]
      exact R_cret C (ch_16 _ h3).2 rfl dl_14
    exact fun out ho ls H locs hl hP hS => va_tb C.1 C.2.1 hT hS h1 rfl dl_8 (K2 out ho ls H locs hl hP hS)
  exact fun out ho ls H locs hl hP hS => va_tlen C.1 C.2.1 hT hS (v := 16) rfl dl_2 (K out ho ls H locs hl hP hS)
theorem c_SL1_charAt (hg : GOk sdX q) {i : Int32} {o : Int32} (ho : F_Str_charAt i = some o) : Ct sdX q y_SL1_charAt prog_18_method_2_code 2 (some (FieldType.char)) 2 [.ref (q.2.2.1 1002), .int i] μ ν (φI μ ν o).1 (φI μ ν o).2.1 (φI μ ν o).2.2 := Ct_of rfl hg (fun z C => w_SL1_charAt C) (Nat.le_of_ble_eq_true rfl) ho
theorem w_Str_isLatin1 (C : Ctx sdX q z prog_17_method_154_code "java/lang/String" 1 0 (some (FieldType.boolean))) : R sdX q z 1 (φI μ ν) (some 1) μ ν 0 [(0, .ref (q.2.2.1 1001))] [] := by
  have hE := (C.2.2.2.2.2.2.2.1.2.2.2.1.1 0 (by decide)).2.1
  have K : R sdX q z 1 (φI μ ν) (if (1 : Int32) = 0 then none else some 1) μ ν 3 [(0, .ref (q.2.2.1 1001))] [.int 1] := by
    refine R_if_eq C di_3 (tgt := 17) (by decide) R_none ?_
    refine R_aload_n C 0 di_6 rfl rfl ?_
    have K2 : R sdX q z 1 (φI μ ν) (if (0 : Int32) = 0 then some 1 else none) μ ν 10 [(0, .ref (q.2.2.1 1001))] [.int 0] := by
      refine R_if_ne C di_10 (tgt := 17) (by decide) R_none ?_
      refine R_iconst C di_13 (v := 1) (by decide +kernel) ?_
      refine R_goto C di_14 (tgt := 18) (by decide) ?_
      exact R_zret C (by decide) rfl di_18
    exact fun out ho ls H locs hl hP hS => vk_getf C.1 C.2.1 hE hS C.2.2.2.1 (C.2.2.2.2.1 _ fl_Str_15) (fun _ h => h) di_7 (K2 out ho ls H locs hl hP hS)
  exact fun out ho ls H locs hl hP hS => va_gets C.1 C.2.1 C.2.2.2.2.2.2.2.1.2.2.2.2.1 hS C.2.2.2.1 (C.2.2.2.2.1 _ fl_Str_38) (fun _ h => h) di_0 (K out ho ls H locs hl hP hS)
theorem c_Str_isLatin1 (hg : GOk sdX q) {o : Int32} (ho : some (1 : Int32) = some o) : Ct sdX q y_Str_isLatin1 prog_17_method_154_code 1 (some (FieldType.boolean)) 0 [.ref (q.2.2.1 1001)] μ ν (φI μ ν o).1 (φI μ ν o).2.1 (φI μ ν o).2.2 := Ct_of rfl hg (fun z C => w_Str_isLatin1 C) (Nat.le_of_ble_eq_true rfl) ho
/-- a method of an object that no cell of ours is -/
theorem R_callVs (C : Ctx sdX q z cc own nL rk ret) {b : Nat} {Cn : String} (hrv : ∀ (H : Heap) (locs : List Loc), va_S (AA sdX q z.1.2.2.2.heap.size) z.1.2.2.2.heap H locs → ∃ cell : Cell, H[b]? = some cell ∧ cell.vm.isStatics = false ∧ z.1.2.2.2.vm.findClass Cn = some cell.cls) (F : CF y cy' maxL rt n) (hcn : y.cls = Cn) (hm : Cond.methodLink own index y ∈ gW) (hi : Cond.instanceMethod y ∈ gW) (hse : Cond.selects Cn y y ∈ gW) (hc : Ct sdX q y cy' maxL rt rk' (.ref b :: As) μ ν v μ' ν') (hrk : rk' + 1 ≤ rk) (hmx : maxL ≤ 80) (hst : stk = As.reverse ++ .ref b :: st) (hn : As.length = n) (hw : (st.map fun v => v.category).sum ≤ 8) (hd : decode cc pc = .ok (.invokevirtual index, 3)) (k : R sdX q z nL φ f μ' ν' (pc + 3) lv (v.toList ++ st)) : R sdX q z nL φ f μ ν pc lv stk := by
  intro out ho ls H locs hl hP hS
  subst hst
  subst hcn
  have hE := C.2.2.2.2.2.2.2.2.2.2.2.2
  have cw := cwV (R := z.1.2.2.1) (s := z.1.2.2.2) (args := z.2.2.1) (mc := 0) (ms := 0) (own := own) (index := index) (C := y.cls) n C.2.2.2.2.1 (gG (fun _ h => h) F.1 [.methodLink own index y, .instanceMethod y, .selects y.cls y y, .initialized y.cls] (by
    intro w hw
    rcases List.mem_cons.mp hw with rfl | hw
    · exact hm
    · rcases List.mem_cons.mp hw with rfl | hw
      · exact hi
      · rcases List.mem_cons.mp hw with rfl | hw
        · exact hse
        · rw [List.mem_singleton.mp hw]; exact F.2.1)) rfl rfl rfl ⟨rfl, F.2.2.1.1, F.2.2.1.2, F.2.2.2⟩ (room_ok C.2.2.2.2.2.1 hrk hmx)
  exact R_run C hS (va_runV ⟨C.1, C.2.1, C.2.2.1, C.2.2.2.1, C.2.2.2.2.1⟩ (hc H.size) cw ⟨PG_blind hE, hrv H locs hS, PG_of C hP hS⟩ rfl hn hl.1 rfl (by show 2 * 0 + _ ≤ 8; omega) hd (cells_ok C.2.2.2.2.2.1)) (fun H1 locs1 hP1 hS1 => k out ho ls H1 locs1 hl hP1 hS1)
theorem str_recv (C : Ctx sdX q z cc own nL rk ret) (H : Heap) (locs : List Loc) (hS : va_S (AA sdX q z.1.2.2.2.heap.size) z.1.2.2.2.heap H locs) : ∃ cell : Cell, H[q.2.2.1 1001]? = some cell ∧ cell.vm.isStatics = false ∧ z.1.2.2.2.vm.findClass "java/lang/String" = some cell.cls := vk_recv (adK := fun _ => q.2.2.1 1001) (i := 0) C.2.2.2.2.2.2.2.1.2.2.2.1 (by decide) hS
theorem w_Str_charAt {i : Int32} (C : Ctx sdX q z prog_17_method_56_code "java/lang/String" 2 4 (some (FieldType.char))) : R sdX q z 2 (φI μ ν) (F_Str_charAt i) μ ν 0 [(0, .ref (q.2.2.1 1001)), (1, .int i)] [] := by
  have hE := (C.2.2.2.2.2.2.2.1.2.2.2.1.1 0 (by decide)).2.2.1
  refine R_aload_n C 0 dh_0 rfl rfl ?_
  refine R_callVs C (str_recv C) cf_Str_isLatin1 rfl ml_Str_492 im_Str_isLatin1 sl_Str_Str_isLatin1_Str_isLatin1 (c_Str_isLatin1 (gk C) rfl) (by decide) (by decide) rfl rfl (Nat.le_of_ble_eq_true rfl) dh_1 ?_
  have K : R sdX q z 2 (φI μ ν) (if (1 : Int32) = 0 then none else F_Str_charAt i) μ ν 4 [(0, .ref (q.2.2.1 1001)), (1, .int i)] [.int 1] := by
    refine R_if_eq C dh_4 (tgt := 16) (by decide) R_none ?_
    refine R_aload_n C 0 dh_7 rfl rfl ?_
    have K2 : R sdX q z 2 (φI μ ν) (F_Str_charAt i) μ ν 11 [(0, .ref (q.2.2.1 1001)), (1, .int i)] [.ref (q.2.2.1 1002)] := by
      refine R_iload_n C 1 dh_11 rfl rfl ?_
      have K3 : R sdX q z 2 (φI μ ν) ((F_Str_charAt i).bind fun v => some v) μ ν 12 [(0, .ref (q.2.2.1 1001)), (1, .int i)] [.int i, .ref (q.2.2.1 1002)] := by
        refine R_bind (fun o ho => ?_)
        refine R_callS C cf_SL1_charAt ml_Str_495 sm_SL1_charAt (c_SL1_charAt (gk C) ho) (by decide) (by decide) rfl rfl (Nat.le_of_ble_eq_true rfl) dh_12 ?_
        have hn : narrow .char (.int o) = .int o := by
          obtain ⟨h1, rfl⟩ := gd_some ho
          exact (ch_16 _ (Nat.not_le.mp (fun h => h1 (Or.inr h)))).2
        exact R_cret C hn rfl dh_15
      exact R_eq (by cases F_Str_charAt i <;> rfl) K3
    exact fun out ho ls H locs hl hP hS => vk_getf C.1 C.2.1 hE hS C.2.2.2.1 (C.2.2.2.2.1 _ fl_Str_9) (fun _ h => h) dh_8 (K2 out ho ls H locs hl hP hS)
  exact K
theorem c_Str_charAt (hg : GOk sdX q) {i : Int32} {o : Int32} (ho : F_Str_charAt i = some o) : Ct sdX q y_Str_charAt prog_17_method_56_code 2 (some (FieldType.char)) 4 [.ref (q.2.2.1 1001), .int i] μ ν (φI μ ν o).1 (φI μ ν o).2.1 (φI μ ν o).2.2 := Ct_of rfl hg (fun z C => w_Str_charAt C) (Nat.le_of_ble_eq_true rfl) ho
theorem R_charAt (C : Ctx sdX q z cc own nL rk ret) (hm : Cond.methodLink own index y_Str_charAt ∈ gW) {i : Int32} {o : Int32} (ho : F_Str_charAt i = some o) (hrk : 5 ≤ rk) (hw : (st.map fun v => v.category).sum ≤ 8) (hd : decode cc pc = .ok (.invokevirtual index, 3)) (k : R sdX q z nL φ f μ ν (pc + 3) lv (.int o :: st)) : R sdX q z nL φ f μ ν pc lv (.int i :: .ref (q.2.2.1 1001) :: st) := R_callVs C (str_recv C) cf_Str_charAt rfl hm im_Str_charAt sl_Str_Str_charAt_Str_charAt (c_Str_charAt (gk C) ho) hrk (by decide) (As := [.int i]) rfl rfl hw hd k
end CH
