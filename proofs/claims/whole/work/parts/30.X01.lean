def F_BT_asItem (a0 : Int32) (a1 : Int64) : Option (Int64) := (if a0 = 0 then some (Int32.toInt64 (Int8.toInt32 (Int32.toInt8 (Int64.toInt32 a1)))) else if a0 = 1 then some (Int32.toInt64 (Int16.toInt32 (Int32.toInt16 (Int64.toInt32 a1)))) else if a0 = 2 then some (Int32.toInt64 (Int64.toInt32 a1)) else if a0 = 3 then some a1 else (if (lg_cmp a1 0) = 0 then some 0 else some 1))
theorem d_BT_asItem_0 : decode prog_1_method_47_code 0 = .ok (.iload_n 0, 1) := by decide +kernel
theorem d_BT_asItem_1 : decode prog_1_method_47_code 1 = .ok (.tableswitch 47 0 3 #[31, 36, 41, 45], 31) := by decide +kernel
theorem d_BT_asItem_32 : decode prog_1_method_47_code 32 = .ok (.lload_n 1, 1) := by decide +kernel
theorem d_BT_asItem_33 : decode prog_1_method_47_code 33 = .ok (.l2i, 1) := by decide +kernel
theorem d_BT_asItem_34 : decode prog_1_method_47_code 34 = .ok (.i2b, 1) := by decide +kernel
theorem d_BT_asItem_35 : decode prog_1_method_47_code 35 = .ok (.i2l, 1) := by decide +kernel
theorem d_BT_asItem_36 : decode prog_1_method_47_code 36 = .ok (.lreturn, 1) := by decide +kernel
theorem d_BT_asItem_37 : decode prog_1_method_47_code 37 = .ok (.lload_n 1, 1) := by decide +kernel
theorem d_BT_asItem_38 : decode prog_1_method_47_code 38 = .ok (.l2i, 1) := by decide +kernel
theorem d_BT_asItem_39 : decode prog_1_method_47_code 39 = .ok (.i2s, 1) := by decide +kernel
theorem d_BT_asItem_40 : decode prog_1_method_47_code 40 = .ok (.i2l, 1) := by decide +kernel
theorem d_BT_asItem_41 : decode prog_1_method_47_code 41 = .ok (.lreturn, 1) := by decide +kernel
theorem d_BT_asItem_42 : decode prog_1_method_47_code 42 = .ok (.lload_n 1, 1) := by decide +kernel
theorem d_BT_asItem_43 : decode prog_1_method_47_code 43 = .ok (.l2i, 1) := by decide +kernel
theorem d_BT_asItem_44 : decode prog_1_method_47_code 44 = .ok (.i2l, 1) := by decide +kernel
theorem d_BT_asItem_45 : decode prog_1_method_47_code 45 = .ok (.lreturn, 1) := by decide +kernel
theorem d_BT_asItem_46 : decode prog_1_method_47_code 46 = .ok (.lload_n 1, 1) := by decide +kernel
theorem d_BT_asItem_47 : decode prog_1_method_47_code 47 = .ok (.lreturn, 1) := by decide +kernel
theorem d_BT_asItem_48 : decode prog_1_method_47_code 48 = .ok (.lload_n 1, 1) := by decide +kernel
theorem d_BT_asItem_49 : decode prog_1_method_47_code 49 = .ok (.lconst 0, 1) := by decide +kernel
theorem d_BT_asItem_50 : decode prog_1_method_47_code 50 = .ok (.lcmp, 1) := by decide +kernel
theorem d_BT_asItem_58 : decode prog_1_method_47_code 58 = .ok (.lconst 0, 1) := by decide +kernel
theorem d_BT_asItem_59 : decode prog_1_method_47_code 59 = .ok (.lreturn, 1) := by decide +kernel
theorem d_BT_asItem_54 : decode prog_1_method_47_code 54 = .ok (.lconst 1, 1) := by decide +kernel
theorem d_BT_asItem_55 : decode prog_1_method_47_code 55 = .ok (.goto 4, 3) := by decide +kernel
theorem d_BT_asItem_51 : decode prog_1_method_47_code 51 = .ok (.ifCond .eq 7, 3) := by decide +kernel
set_option maxRecDepth 10000 in
set_option maxHeartbeats 4000000 in
theorem w_BT_asItem {q : QT} {z : ZT} {a0 : Int32} {a1 : Int64} {μ : Mm} {ν : Ml} (C : Ctx sdX q z prog_1_method_47_code "BesideTom" 3 0 (some (FieldType.long))) : R sdX q z 3 (φL μ ν) (F_BT_asItem a0 a1) μ ν 0 [(0, .int a0), (1, .long a1)] [] := by
  unfold F_BT_asItem
  refine R_iload_n C 0 d_BT_asItem_0 rfl rfl ?_
  refine R_ite (fun e1 => ?_) (fun e1 => ?_)
  · refine R_tsw C e1 d_BT_asItem_1 (tgt := 32) (by decide +kernel) (by decide +kernel) rfl (by decide) ?_
    refine R_lload_n C 1 d_BT_asItem_32 rfl rfl ?_
    refine R_l2i C d_BT_asItem_33 ?_
    refine R_i2b C d_BT_asItem_34 ?_
    refine R_i2l C d_BT_asItem_35 ?_
    exact R_lret C rfl d_BT_asItem_36
  refine R_ite (fun e2 => ?_) (fun e2 => ?_)
  · refine R_tsw C e2 d_BT_asItem_1 (tgt := 37) (by decide +kernel) (by decide +kernel) rfl (by decide) ?_
    refine R_lload_n C 1 d_BT_asItem_37 rfl rfl ?_
    refine R_l2i C d_BT_asItem_38 ?_
    refine R_i2s C d_BT_asItem_39 ?_
    refine R_i2l C d_BT_asItem_40 ?_
    exact R_lret C rfl d_BT_asItem_41
  refine R_ite (fun e3 => ?_) (fun e3 => ?_)
  · refine R_tsw C e3 d_BT_asItem_1 (tgt := 42) (by decide +kernel) (by decide +kernel) rfl (by decide) ?_
    refine R_lload_n C 1 d_BT_asItem_42 rfl rfl ?_
    refine R_l2i C d_BT_asItem_43 ?_
    refine R_i2l C d_BT_asItem_44 ?_
    exact R_lret C rfl d_BT_asItem_45
  refine R_ite (fun e4 => ?_) (fun e4 => ?_)
  · refine R_tsw C e4 d_BT_asItem_1 (tgt := 46) (by decide +kernel) (by decide +kernel) rfl (by decide) ?_
    refine R_lload_n C 1 d_BT_asItem_46 rfl rfl ?_
    exact R_lret C rfl d_BT_asItem_47
  refine R_tswd C d_BT_asItem_1 (tgt := 48) (sw_out (L := [0, 1, 2, 3]) (n := 4) (by decide +kernel) (by decide +kernel) (List.forall_mem_cons.mpr ⟨e1, List.forall_mem_cons.mpr ⟨e2, List.forall_mem_cons.mpr ⟨e3, List.forall_mem_cons.mpr ⟨e4, fun _ h => absurd h List.not_mem_nil⟩⟩⟩⟩)) (by decide) ?_
  refine R_lload_n C 1 d_BT_asItem_48 rfl rfl ?_
  refine R_lconst C d_BT_asItem_49 (v := 0) (by decide +kernel) ?_
  refine R_lcmp C d_BT_asItem_50 ?_
  refine R_if_eq C d_BT_asItem_51 (tgt := 58) (by decide) ?_ ?_
  · skip
    refine R_lconst C d_BT_asItem_58 (v := 0) (by decide +kernel) ?_
    exact R_lret C rfl d_BT_asItem_59
  · skip
    refine R_lconst C d_BT_asItem_54 (v := 1) (by decide +kernel) ?_
    refine R_goto C d_BT_asItem_55 (tgt := 59) (by decide) ?_
    exact R_lret C rfl d_BT_asItem_59
theorem c_BT_asItem {q : QT} (hg : GOk sdX q) {a0 : Int32} {a1 : Int64} {μ : Mm} {ν : Ml} {o : Int64} (ho : F_BT_asItem a0 a1 = some o) : Ct sdX q y_BT_asItem prog_1_method_47_code 3 (some (FieldType.long)) 0 [.int a0, .long a1] μ ν ((φL μ ν) o).1 ((φL μ ν) o).2.1 ((φL μ ν) o).2.2 := Ct_of rfl hg (fun z C => w_BT_asItem C) (Nat.le_of_ble_eq_true rfl) ho
def F_Rooms_begins (a1 : Int32) (a2 : Nat) (a3 : Int32) (a4 : Int32) (μ : Mm) : Option (Mm) := lt_ (up2 μ 1 3 a1) fun μ1 => lt_ (up2 μ1 1 4 (-1)) fun μ2 => lt_ (up2 μ2 1 6 (-1)) fun μ3 => lt_ (up2 μ3 1 7 a3) fun μ4 => (rdI (μ4 (a2 + 1)) 6 a3).bind fun v5 => lt_ (up2 μ4 1 8 v5) fun μ6 => (rdI (μ6 (a2 + 2)) 6 a3).bind fun v7 => lt_ (up2 μ6 1 9 v7) fun μ8 => lt_ (up2 μ8 1 10 a4) fun μ9 => lt_ (up2 μ9 1 11 3) fun μ10 => lt_ (up2 μ10 1 12 3) fun μ11 => lt_ (up2 μ11 1 13 4) fun μ12 => some μ12
theorem d_Rooms_begins_0 : decode prog_5_method_8_code 0 = .ok (.aload_n 0, 1) := by decide +kernel
theorem d_Rooms_begins_1 : decode prog_5_method_8_code 1 = .ok (.iload_n 1, 1) := by decide +kernel
theorem d_Rooms_begins_5 : decode prog_5_method_8_code 5 = .ok (.aload_n 0, 1) := by decide +kernel
theorem d_Rooms_begins_6 : decode prog_5_method_8_code 6 = .ok (.iconst (-1), 1) := by decide +kernel
theorem d_Rooms_begins_10 : decode prog_5_method_8_code 10 = .ok (.aload_n 0, 1) := by decide +kernel
theorem d_Rooms_begins_11 : decode prog_5_method_8_code 11 = .ok (.iconst (-1), 1) := by decide +kernel
theorem d_Rooms_begins_15 : decode prog_5_method_8_code 15 = .ok (.aload_n 0, 1) := by decide +kernel
theorem d_Rooms_begins_16 : decode prog_5_method_8_code 16 = .ok (.iload_n 3, 1) := by decide +kernel
theorem d_Rooms_begins_20 : decode prog_5_method_8_code 20 = .ok (.aload_n 0, 1) := by decide +kernel
theorem d_Rooms_begins_21 : decode prog_5_method_8_code 21 = .ok (.aload_n 2, 1) := by decide +kernel
theorem d_Rooms_begins_25 : decode prog_5_method_8_code 25 = .ok (.iload_n 3, 1) := by decide +kernel
theorem d_Rooms_begins_30 : decode prog_5_method_8_code 30 = .ok (.aload_n 0, 1) := by decide +kernel
theorem d_Rooms_begins_31 : decode prog_5_method_8_code 31 = .ok (.aload_n 2, 1) := by decide +kernel
theorem d_Rooms_begins_35 : decode prog_5_method_8_code 35 = .ok (.iload_n 3, 1) := by decide +kernel
theorem d_Rooms_begins_40 : decode prog_5_method_8_code 40 = .ok (.aload_n 0, 1) := by decide +kernel
theorem d_Rooms_begins_41 : decode prog_5_method_8_code 41 = .ok (.iload 4, 2) := by decide +kernel
theorem d_Rooms_begins_46 : decode prog_5_method_8_code 46 = .ok (.aload_n 0, 1) := by decide +kernel
theorem d_Rooms_begins_47 : decode prog_5_method_8_code 47 = .ok (.iconst 3, 1) := by decide +kernel
theorem d_Rooms_begins_51 : decode prog_5_method_8_code 51 = .ok (.aload_n 0, 1) := by decide +kernel
theorem d_Rooms_begins_52 : decode prog_5_method_8_code 52 = .ok (.iconst 3, 1) := by decide +kernel
theorem d_Rooms_begins_56 : decode prog_5_method_8_code 56 = .ok (.aload_n 0, 1) := by decide +kernel
theorem d_Rooms_begins_57 : decode prog_5_method_8_code 57 = .ok (.iconst 4, 1) := by decide +kernel
theorem d_Rooms_begins_61 : decode prog_5_method_8_code 61 = .ok (.return_, 1) := by decide +kernel
theorem d_Rooms_begins_32 : decode prog_5_method_8_code 32 = .ok (.getfield 78, 3) := by decide +kernel
theorem d_Rooms_begins_22 : decode prog_5_method_8_code 22 = .ok (.getfield 73, 3) := by decide +kernel
theorem d_Rooms_begins_2 : decode prog_5_method_8_code 2 = .ok (.putfield 43, 3) := by decide +kernel
theorem d_Rooms_begins_7 : decode prog_5_method_8_code 7 = .ok (.putfield 67, 3) := by decide +kernel
theorem d_Rooms_begins_12 : decode prog_5_method_8_code 12 = .ok (.putfield 64, 3) := by decide +kernel
theorem d_Rooms_begins_17 : decode prog_5_method_8_code 17 = .ok (.putfield 70, 3) := by decide +kernel
theorem d_Rooms_begins_26 : decode prog_5_method_8_code 26 = .ok (.iaload, 1) := by decide +kernel
theorem d_Rooms_begins_27 : decode prog_5_method_8_code 27 = .ok (.putfield 76, 3) := by decide +kernel
theorem d_Rooms_begins_36 : decode prog_5_method_8_code 36 = .ok (.iaload, 1) := by decide +kernel
theorem d_Rooms_begins_37 : decode prog_5_method_8_code 37 = .ok (.putfield 81, 3) := by decide +kernel
theorem d_Rooms_begins_43 : decode prog_5_method_8_code 43 = .ok (.putfield 83, 3) := by decide +kernel
theorem d_Rooms_begins_48 : decode prog_5_method_8_code 48 = .ok (.putfield 36, 3) := by decide +kernel
theorem d_Rooms_begins_53 : decode prog_5_method_8_code 53 = .ok (.putfield 86, 3) := by decide +kernel
theorem d_Rooms_begins_58 : decode prog_5_method_8_code 58 = .ok (.putfield 89, 3) := by decide +kernel
set_option maxRecDepth 10000 in
set_option maxHeartbeats 4000000 in
theorem w_Rooms_begins {q : QT} {z : ZT} {a1 : Int32} {a2 : Nat} {a3 : Int32} {a4 : Int32} {μ : Mm} {ν : Ml} (C : Ctx sdX q z prog_5_method_8_code "BesideTom$Rooms" 5 0 none) (h_a2 : a2 ∈ seats) : R sdX q z 5 (φVm ν) (F_Rooms_begins a1 a2 a3 a4 μ) μ ν 0 [(0, .ref (q.2.2.1 1)), (1, .int a1), (2, .ref (q.2.2.1 a2)), (3, .int a3), (4, .int a4)] [] := by
  unfold F_Rooms_begins
  refine R_aload_n C 0 d_Rooms_begins_0 rfl rfl ?_
  refine R_iload_n C 1 d_Rooms_begins_1 rfl rfl ?_
  refine pf_Rooms_row C fl_Rooms_43 d_Rooms_begins_2 (fun μ1 => ?_)
  refine R_aload_n C 0 d_Rooms_begins_5 rfl rfl ?_
  refine R_iconst C d_Rooms_begins_6 (v := (-1)) (by decide +kernel) ?_
  refine pf_Rooms_at C fl_Rooms_67 d_Rooms_begins_7 (fun μ2 => ?_)
  refine R_aload_n C 0 d_Rooms_begins_10 rfl rfl ?_
  refine R_iconst C d_Rooms_begins_11 (v := (-1)) (by decide +kernel) ?_
  refine pf_Rooms_fault C fl_Rooms_64 d_Rooms_begins_12 (fun μ3 => ?_)
  refine R_aload_n C 0 d_Rooms_begins_15 rfl rfl ?_
  refine R_iload_n C 3 d_Rooms_begins_16 rfl rfl ?_
  refine pf_Rooms_pupil C fl_Rooms_70 d_Rooms_begins_17 (fun μ4 => ?_)
  refine R_aload_n C 0 d_Rooms_begins_20 rfl rfl ?_
  refine R_aload_n C 2 d_Rooms_begins_21 rfl rfl ?_
  refine gf_Seat_kind C h_a2 fl_Rooms_73 d_Rooms_begins_22 ?_
  refine R_iload_n C 3 d_Rooms_begins_25 rfl rfl ?_
  refine R_iald C (se_1 h_a2) (sc_1 h_a2 q _ _) d_Rooms_begins_26 (fun v5 => ?_)
  refine pf_Rooms_kind C fl_Rooms_76 d_Rooms_begins_27 (fun μ6 => ?_)
  refine R_aload_n C 0 d_Rooms_begins_30 rfl rfl ?_
  refine R_aload_n C 2 d_Rooms_begins_31 rfl rfl ?_
  refine gf_Seat_v C h_a2 fl_Rooms_78 d_Rooms_begins_32 ?_
  refine R_iload_n C 3 d_Rooms_begins_35 rfl rfl ?_
  refine R_iald C (se_2 h_a2) (sc_2 h_a2 q _ _) d_Rooms_begins_36 (fun v7 => ?_)
  refine pf_Rooms_v C fl_Rooms_81 d_Rooms_begins_37 (fun μ8 => ?_)
  refine R_aload_n C 0 d_Rooms_begins_40 rfl rfl ?_
  refine R_iload C 4 d_Rooms_begins_41 rfl ?_
  refine pf_Rooms_desk C fl_Rooms_83 d_Rooms_begins_43 (fun μ9 => ?_)
  refine R_aload_n C 0 d_Rooms_begins_46 rfl rfl ?_
  refine R_iconst C d_Rooms_begins_47 (v := 3) (by decide +kernel) ?_
  refine pf_Rooms_mouth C fl_Rooms_36 d_Rooms_begins_48 (fun μ10 => ?_)
  refine R_aload_n C 0 d_Rooms_begins_51 rfl rfl ?_
  refine R_iconst C d_Rooms_begins_52 (v := 3) (by decide +kernel) ?_
  refine pf_Rooms_wears C fl_Rooms_86 d_Rooms_begins_53 (fun μ11 => ?_)
  refine R_aload_n C 0 d_Rooms_begins_56 rfl rfl ?_
  refine R_iconst C d_Rooms_begins_57 (v := 4) (by decide +kernel) ?_
  refine pf_Rooms_cost C fl_Rooms_89 d_Rooms_begins_58 (fun μ12 => ?_)
  exact R_vret C rfl d_Rooms_begins_61
theorem c_Rooms_begins {q : QT} (hg : GOk sdX q) {a1 : Int32} {a2 : Nat} {a3 : Int32} {a4 : Int32} {μ : Mm} {ν : Ml} (h_a2 : a2 ∈ seats) {o : Mm} (ho : F_Rooms_begins a1 a2 a3 a4 μ = some o) : Ct sdX q y_Rooms_begins prog_5_method_8_code 5 none 0 [.ref (q.2.2.1 1), .int a1, .ref (q.2.2.1 a2), .int a3, .int a4] μ ν ((φVm ν) o).1 ((φVm ν) o).2.1 ((φVm ν) o).2.2 := Ct_of rfl hg (fun z C => w_Rooms_begins C h_a2) (Nat.le_of_ble_eq_true rfl) ho
def F_Trace_begins (a1 : Int32) (μ : Mm) : Option (Mm) := jn (α := Mm) (fun K4 => (if 20 ≤ (μ 11 1) then K4 μ else (wrI μ 12 20 (μ 11 1) a1).bind fun μ1 => K4 μ1)) (fun (μ2 : Mm) => lt_ (up2 μ2 11 1 ((μ2 11 1) + 1)) fun μ3 => some μ3)
theorem d_Trace_begins_0 : decode prog_12_method_2_code 0 = .ok (.aload_n 0, 1) := by decide +kernel
theorem d_Trace_begins_4 : decode prog_12_method_2_code 4 = .ok (.bipush 20, 2) := by decide +kernel
theorem d_Trace_begins_9 : decode prog_12_method_2_code 9 = .ok (.aload_n 0, 1) := by decide +kernel
theorem d_Trace_begins_13 : decode prog_12_method_2_code 13 = .ok (.aload_n 0, 1) := by decide +kernel
theorem d_Trace_begins_17 : decode prog_12_method_2_code 17 = .ok (.iload_n 1, 1) := by decide +kernel
theorem d_Trace_begins_18 : decode prog_12_method_2_code 18 = .ok (.iastore, 1) := by decide +kernel
theorem d_Trace_begins_14 : decode prog_12_method_2_code 14 = .ok (.getfield 13, 3) := by decide +kernel
theorem d_Trace_begins_10 : decode prog_12_method_2_code 10 = .ok (.getfield 9, 3) := by decide +kernel
theorem d_Trace_begins_6 : decode prog_12_method_2_code 6 = .ok (.if_icmp .ge 13, 3) := by decide +kernel
theorem d_Trace_begins_19 : decode prog_12_method_2_code 19 = .ok (.aload_n 0, 1) := by decide +kernel
theorem d_Trace_begins_20 : decode prog_12_method_2_code 20 = .ok (.dup, 1) := by decide +kernel
theorem d_Trace_begins_24 : decode prog_12_method_2_code 24 = .ok (.iconst 1, 1) := by decide +kernel
theorem d_Trace_begins_25 : decode prog_12_method_2_code 25 = .ok (.iadd, 1) := by decide +kernel
theorem d_Trace_begins_29 : decode prog_12_method_2_code 29 = .ok (.return_, 1) := by decide +kernel
theorem d_Trace_begins_21 : decode prog_12_method_2_code 21 = .ok (.getfield 13, 3) := by decide +kernel
theorem d_Trace_begins_1 : decode prog_12_method_2_code 1 = .ok (.getfield 13, 3) := by decide +kernel
theorem d_Trace_begins_26 : decode prog_12_method_2_code 26 = .ok (.putfield 13, 3) := by decide +kernel
set_option maxRecDepth 10000 in
set_option maxHeartbeats 4000000 in
theorem w_Trace_begins {q : QT} {z : ZT} {a1 : Int32} {μ : Mm} {ν : Ml} (C : Ctx sdX q z prog_12_method_2_code "BesideTom$Trace" 2 0 none) : R sdX q z 2 (φVm ν) (F_Trace_begins a1 μ) μ ν 0 [(0, .ref (q.2.2.1 11)), (1, .int a1)] [] := by
  unfold F_Trace_begins
  refine R_aload_n C 0 d_Trace_begins_0 rfl rfl ?_
  refine gf_Trace_ran C fl_Trace_13 d_Trace_begins_1 ?_
  refine R_bipush C d_Trace_begins_4 (v := 20) (by decide +kernel) ?_
  refine R_jn (fun K4 => ∀ (μ2 : Mm), R sdX q z 2 (φVm ν) (K4 μ2) μ2 ν 19 [(0, .ref (q.2.2.1 11))] []) ?_ (fun K4 hK4 => ?_)
  · intro μ2
    refine R_aload_n C 0 d_Trace_begins_19 rfl rfl ?_
    refine R_dup C d_Trace_begins_20 rfl ?_
    refine gf_Trace_ran C fl_Trace_13 d_Trace_begins_21 ?_
    refine R_iconst C d_Trace_begins_24 (v := 1) (by decide +kernel) ?_
    refine R_iadd C d_Trace_begins_25 ?_
    refine pf_Trace_ran C fl_Trace_13 d_Trace_begins_26 (fun μ3 => ?_)
    exact R_vret C rfl d_Trace_begins_29
  · skip
    refine R_icmp_ge C d_Trace_begins_6 (tgt := 19) (by decide) ?_ ?_
    · skip
      exact R_sub [0] rfl (hK4 μ)
    · skip
      refine R_aload_n C 0 d_Trace_begins_9 rfl rfl ?_
      refine gf_Trace_bodies C fl_Trace_9 d_Trace_begins_10 ?_
      refine R_aload_n C 0 d_Trace_begins_13 rfl rfl ?_
      refine gf_Trace_ran C fl_Trace_13 d_Trace_begins_14 ?_
      refine R_iload_n C 1 d_Trace_begins_17 rfl rfl ?_
      refine R_iast C xm_12 (fun h => xc_12 q h _) d_Trace_begins_18 (fun μ1 => ?_)
      exact R_sub [0] rfl (hK4 μ1)
theorem c_Trace_begins {q : QT} (hg : GOk sdX q) {a1 : Int32} {μ : Mm} {ν : Ml} {o : Mm} (ho : F_Trace_begins a1 μ = some o) : Ct sdX q y_Trace_begins prog_12_method_2_code 2 none 0 [.ref (q.2.2.1 11), .int a1] μ ν ((φVm ν) o).1 ((φVm ν) o).2.1 ((φVm ν) o).2.2 := Ct_of rfl hg (fun z C => w_Trace_begins C) (Nat.le_of_ble_eq_true rfl) ho
def F_BT_bit (a0 : Int32) (a1 : Int32) : Option (Int32) := (if ((a0 >>> (a1 &&& 31)) &&& 1) = 0 then some 0 else some 1)
theorem d_BT_bit_0 : decode prog_1_method_52_code 0 = .ok (.iload_n 0, 1) := by decide +kernel
theorem d_BT_bit_1 : decode prog_1_method_52_code 1 = .ok (.iload_n 1, 1) := by decide +kernel
theorem d_BT_bit_2 : decode prog_1_method_52_code 2 = .ok (.ishr, 1) := by decide +kernel
theorem d_BT_bit_3 : decode prog_1_method_52_code 3 = .ok (.iconst 1, 1) := by decide +kernel
theorem d_BT_bit_4 : decode prog_1_method_52_code 4 = .ok (.iand, 1) := by decide +kernel
theorem d_BT_bit_12 : decode prog_1_method_52_code 12 = .ok (.iconst 0, 1) := by decide +kernel
theorem d_BT_bit_13 : decode prog_1_method_52_code 13 = .ok (.ireturn, 1) := by decide +kernel
theorem d_BT_bit_8 : decode prog_1_method_52_code 8 = .ok (.iconst 1, 1) := by decide +kernel
theorem d_BT_bit_9 : decode prog_1_method_52_code 9 = .ok (.goto 4, 3) := by decide +kernel
theorem d_BT_bit_5 : decode prog_1_method_52_code 5 = .ok (.ifCond .eq 7, 3) := by decide +kernel
set_option maxRecDepth 10000 in
set_option maxHeartbeats 4000000 in
theorem w_BT_bit {q : QT} {z : ZT} {a0 : Int32} {a1 : Int32} {μ : Mm} {ν : Ml} (C : Ctx sdX q z prog_1_method_52_code "BesideTom" 2 0 (some (FieldType.boolean))) : R sdX q z 2 (φI μ ν) (F_BT_bit a0 a1) μ ν 0 [(0, .int a0), (1, .int a1)] [] := by
  unfold F_BT_bit
  refine R_iload_n C 0 d_BT_bit_0 rfl rfl ?_
  refine R_iload_n C 1 d_BT_bit_1 rfl rfl ?_
  refine R_ishr C d_BT_bit_2 ?_
  refine R_iconst C d_BT_bit_3 (v := 1) (by decide +kernel) ?_
  refine R_iand C d_BT_bit_4 ?_
  refine R_if_eq C d_BT_bit_5 (tgt := 12) (by decide) ?_ ?_
  · skip
    refine R_iconst C d_BT_bit_12 (v := 0) (by decide +kernel) ?_
    exact R_zret C (by decide) rfl d_BT_bit_13
  · skip
    refine R_iconst C d_BT_bit_8 (v := 1) (by decide +kernel) ?_
    refine R_goto C d_BT_bit_9 (tgt := 13) (by decide) ?_
    exact R_zret C (by decide) rfl d_BT_bit_13
theorem c_BT_bit {q : QT} (hg : GOk sdX q) {a0 : Int32} {a1 : Int32} {μ : Mm} {ν : Ml} {o : Int32} (ho : F_BT_bit a0 a1 = some o) : Ct sdX q y_BT_bit prog_1_method_52_code 2 (some (FieldType.boolean)) 0 [.int a0, .int a1] μ ν ((φI μ ν) o).1 ((φI μ ν) o).2.1 ((φI μ ν) o).2.2 := Ct_of rfl hg (fun z C => w_BT_bit C) (Nat.le_of_ble_eq_true rfl) ho
def F_Int_bitCount (a0 : Int32) : Option (Int32) := lt_ (a0 - ((Int32.toUInt32 a0 >>> (Int32.toUInt32 1 &&& Int32.toUInt32 31)).toInt32 &&& (1431655765))) fun x1 => lt_ ((x1 &&& (858993459)) + ((Int32.toUInt32 x1 >>> (Int32.toUInt32 2 &&& Int32.toUInt32 31)).toInt32 &&& (858993459))) fun x2 => lt_ ((x2 + (Int32.toUInt32 x2 >>> (Int32.toUInt32 4 &&& Int32.toUInt32 31)).toInt32) &&& (252645135)) fun x3 => lt_ (x3 + (Int32.toUInt32 x3 >>> (Int32.toUInt32 8 &&& Int32.toUInt32 31)).toInt32) fun x4 => lt_ (x4 + (Int32.toUInt32 x4 >>> (Int32.toUInt32 16 &&& Int32.toUInt32 31)).toInt32) fun x5 => some (x5 &&& 63)
theorem d_Int_bitCount_0 : decode prog_15_method_49_code 0 = .ok (.iload_n 0, 1) := by decide +kernel
theorem d_Int_bitCount_1 : decode prog_15_method_49_code 1 = .ok (.iload_n 0, 1) := by decide +kernel
theorem d_Int_bitCount_2 : decode prog_15_method_49_code 2 = .ok (.iconst 1, 1) := by decide +kernel
theorem d_Int_bitCount_3 : decode prog_15_method_49_code 3 = .ok (.iushr, 1) := by decide +kernel
theorem d_Int_bitCount_4 : decode prog_15_method_49_code 4 = .ok (.ldc_w 265, 3) := by decide +kernel
theorem d_Int_bitCount_7 : decode prog_15_method_49_code 7 = .ok (.iand, 1) := by decide +kernel
theorem d_Int_bitCount_8 : decode prog_15_method_49_code 8 = .ok (.isub, 1) := by decide +kernel
theorem d_Int_bitCount_10 : decode prog_15_method_49_code 10 = .ok (.iload_n 0, 1) := by decide +kernel
theorem d_Int_bitCount_11 : decode prog_15_method_49_code 11 = .ok (.ldc_w 266, 3) := by decide +kernel
theorem d_Int_bitCount_14 : decode prog_15_method_49_code 14 = .ok (.iand, 1) := by decide +kernel
theorem d_Int_bitCount_15 : decode prog_15_method_49_code 15 = .ok (.iload_n 0, 1) := by decide +kernel
theorem d_Int_bitCount_16 : decode prog_15_method_49_code 16 = .ok (.iconst 2, 1) := by decide +kernel
theorem d_Int_bitCount_17 : decode prog_15_method_49_code 17 = .ok (.iushr, 1) := by decide +kernel
theorem d_Int_bitCount_18 : decode prog_15_method_49_code 18 = .ok (.ldc_w 266, 3) := by decide +kernel
theorem d_Int_bitCount_21 : decode prog_15_method_49_code 21 = .ok (.iand, 1) := by decide +kernel
theorem d_Int_bitCount_22 : decode prog_15_method_49_code 22 = .ok (.iadd, 1) := by decide +kernel
theorem d_Int_bitCount_24 : decode prog_15_method_49_code 24 = .ok (.iload_n 0, 1) := by decide +kernel
theorem d_Int_bitCount_25 : decode prog_15_method_49_code 25 = .ok (.iload_n 0, 1) := by decide +kernel
theorem d_Int_bitCount_26 : decode prog_15_method_49_code 26 = .ok (.iconst 4, 1) := by decide +kernel
theorem d_Int_bitCount_27 : decode prog_15_method_49_code 27 = .ok (.iushr, 1) := by decide +kernel
theorem d_Int_bitCount_28 : decode prog_15_method_49_code 28 = .ok (.iadd, 1) := by decide +kernel
theorem d_Int_bitCount_29 : decode prog_15_method_49_code 29 = .ok (.ldc_w 267, 3) := by decide +kernel
theorem d_Int_bitCount_32 : decode prog_15_method_49_code 32 = .ok (.iand, 1) := by decide +kernel
theorem d_Int_bitCount_34 : decode prog_15_method_49_code 34 = .ok (.iload_n 0, 1) := by decide +kernel
theorem d_Int_bitCount_35 : decode prog_15_method_49_code 35 = .ok (.iload_n 0, 1) := by decide +kernel
theorem d_Int_bitCount_36 : decode prog_15_method_49_code 36 = .ok (.bipush 8, 2) := by decide +kernel
theorem d_Int_bitCount_38 : decode prog_15_method_49_code 38 = .ok (.iushr, 1) := by decide +kernel
theorem d_Int_bitCount_39 : decode prog_15_method_49_code 39 = .ok (.iadd, 1) := by decide +kernel
theorem d_Int_bitCount_41 : decode prog_15_method_49_code 41 = .ok (.iload_n 0, 1) := by decide +kernel
theorem d_Int_bitCount_42 : decode prog_15_method_49_code 42 = .ok (.iload_n 0, 1) := by decide +kernel
theorem d_Int_bitCount_43 : decode prog_15_method_49_code 43 = .ok (.bipush 16, 2) := by decide +kernel
theorem d_Int_bitCount_45 : decode prog_15_method_49_code 45 = .ok (.iushr, 1) := by decide +kernel
theorem d_Int_bitCount_46 : decode prog_15_method_49_code 46 = .ok (.iadd, 1) := by decide +kernel
theorem d_Int_bitCount_48 : decode prog_15_method_49_code 48 = .ok (.iload_n 0, 1) := by decide +kernel
theorem d_Int_bitCount_49 : decode prog_15_method_49_code 49 = .ok (.bipush 63, 2) := by decide +kernel
theorem d_Int_bitCount_51 : decode prog_15_method_49_code 51 = .ok (.iand, 1) := by decide +kernel
theorem d_Int_bitCount_52 : decode prog_15_method_49_code 52 = .ok (.ireturn, 1) := by decide +kernel
theorem d_Int_bitCount_47 : decode prog_15_method_49_code 47 = .ok (.istore_n 0, 1) := by decide +kernel
theorem d_Int_bitCount_40 : decode prog_15_method_49_code 40 = .ok (.istore_n 0, 1) := by decide +kernel
theorem d_Int_bitCount_33 : decode prog_15_method_49_code 33 = .ok (.istore_n 0, 1) := by decide +kernel
theorem d_Int_bitCount_23 : decode prog_15_method_49_code 23 = .ok (.istore_n 0, 1) := by decide +kernel
theorem d_Int_bitCount_9 : decode prog_15_method_49_code 9 = .ok (.istore_n 0, 1) := by decide +kernel
set_option maxRecDepth 10000 in
set_option maxHeartbeats 4000000 in
theorem w_Int_bitCount {q : QT} {z : ZT} {a0 : Int32} {μ : Mm} {ν : Ml} (C : Ctx sdX q z prog_15_method_49_code "java/lang/Integer" 1 0 (some (FieldType.int))) : R sdX q z 1 (φI μ ν) (F_Int_bitCount a0) μ ν 0 [(0, .int a0)] [] := by
  unfold F_Int_bitCount
  refine R_iload_n C 0 d_Int_bitCount_0 rfl rfl ?_
  refine R_iload_n C 0 d_Int_bitCount_1 rfl rfl ?_
  refine R_iconst C d_Int_bitCount_2 (v := 1) (by decide +kernel) ?_
  refine R_iushr C d_Int_bitCount_3 ?_
  refine R_ldcw C k_Int_265 d_Int_bitCount_4 ?_
  refine R_iand C d_Int_bitCount_7 ?_
  refine R_isub C d_Int_bitCount_8 ?_
  refine R_nm (fun x1 => ?_)
  refine R_istore_n C (lv' := [(0, .int x1)]) d_Int_bitCount_9 rfl (by decide) rfl ?_
  refine R_iload_n C 0 d_Int_bitCount_10 rfl rfl ?_
  refine R_ldcw C k_Int_266 d_Int_bitCount_11 ?_
  refine R_iand C d_Int_bitCount_14 ?_
  refine R_iload_n C 0 d_Int_bitCount_15 rfl rfl ?_
  refine R_iconst C d_Int_bitCount_16 (v := 2) (by decide +kernel) ?_
  refine R_iushr C d_Int_bitCount_17 ?_
  refine R_ldcw C k_Int_266 d_Int_bitCount_18 ?_
  refine R_iand C d_Int_bitCount_21 ?_
  refine R_iadd C d_Int_bitCount_22 ?_
  refine R_nm (fun x2 => ?_)
  refine R_istore_n C (lv' := [(0, .int x2)]) d_Int_bitCount_23 rfl (by decide) rfl ?_
  refine R_iload_n C 0 d_Int_bitCount_24 rfl rfl ?_
  refine R_iload_n C 0 d_Int_bitCount_25 rfl rfl ?_
  refine R_iconst C d_Int_bitCount_26 (v := 4) (by decide +kernel) ?_
  refine R_iushr C d_Int_bitCount_27 ?_
  refine R_iadd C d_Int_bitCount_28 ?_
  refine R_ldcw C k_Int_267 d_Int_bitCount_29 ?_
  refine R_iand C d_Int_bitCount_32 ?_
  refine R_nm (fun x3 => ?_)
  refine R_istore_n C (lv' := [(0, .int x3)]) d_Int_bitCount_33 rfl (by decide) rfl ?_
  refine R_iload_n C 0 d_Int_bitCount_34 rfl rfl ?_
  refine R_iload_n C 0 d_Int_bitCount_35 rfl rfl ?_
  refine R_bipush C d_Int_bitCount_36 (v := 8) (by decide +kernel) ?_
  refine R_iushr C d_Int_bitCount_38 ?_
  refine R_iadd C d_Int_bitCount_39 ?_
  refine R_nm (fun x4 => ?_)
  refine R_istore_n C (lv' := [(0, .int x4)]) d_Int_bitCount_40 rfl (by decide) rfl ?_
  refine R_iload_n C 0 d_Int_bitCount_41 rfl rfl ?_
  refine R_iload_n C 0 d_Int_bitCount_42 rfl rfl ?_
  refine R_bipush C d_Int_bitCount_43 (v := 16) (by decide +kernel) ?_
  refine R_iushr C d_Int_bitCount_45 ?_
  refine R_iadd C d_Int_bitCount_46 ?_
  refine R_nm (fun x5 => ?_)
  refine R_istore_n C (lv' := [(0, .int x5)]) d_Int_bitCount_47 rfl (by decide) rfl ?_
  refine R_iload_n C 0 d_Int_bitCount_48 rfl rfl ?_
  refine R_bipush C d_Int_bitCount_49 (v := 63) (by decide +kernel) ?_
  refine R_iand C d_Int_bitCount_51 ?_
  exact R_iret C rfl d_Int_bitCount_52
theorem c_Int_bitCount {q : QT} (hg : GOk sdX q) {a0 : Int32} {μ : Mm} {ν : Ml} {o : Int32} (ho : F_Int_bitCount a0 = some o) : Ct sdX q y_Int_bitCount prog_15_method_49_code 1 (some (FieldType.int)) 0 [.int a0] μ ν ((φI μ ν) o).1 ((φI μ ν) o).2.1 ((φI μ ν) o).2.2 := Ct_of rfl hg (fun z C => w_Int_bitCount C) (Nat.le_of_ble_eq_true rfl) ho
def F_BT_cut (a0 : Int32) (a1 : Int32) : Option (Int32) := (if 1 ≤ a1 then if a1 = 0 then none else some (a0 / a1) else some a0)
theorem d_BT_cut_0 : decode prog_1_method_53_code 0 = .ok (.iload_n 1, 1) := by decide +kernel
theorem d_BT_cut_1 : decode prog_1_method_53_code 1 = .ok (.iconst 1, 1) := by decide +kernel
theorem d_BT_cut_9 : decode prog_1_method_53_code 9 = .ok (.iload_n 0, 1) := by decide +kernel
theorem d_BT_cut_10 : decode prog_1_method_53_code 10 = .ok (.iload_n 1, 1) := by decide +kernel
theorem d_BT_cut_12 : decode prog_1_method_53_code 12 = .ok (.ireturn, 1) := by decide +kernel
theorem d_BT_cut_5 : decode prog_1_method_53_code 5 = .ok (.iload_n 0, 1) := by decide +kernel
theorem d_BT_cut_6 : decode prog_1_method_53_code 6 = .ok (.goto 6, 3) := by decide +kernel
theorem d_BT_cut_2 : decode prog_1_method_53_code 2 = .ok (.if_icmp .ge 7, 3) := by decide +kernel
theorem d_BT_cut_11 : decode prog_1_method_53_code 11 = .ok (.idiv, 1) := by decide +kernel
set_option maxRecDepth 10000 in
set_option maxHeartbeats 4000000 in
theorem w_BT_cut {q : QT} {z : ZT} {a0 : Int32} {a1 : Int32} {μ : Mm} {ν : Ml} (C : Ctx sdX q z prog_1_method_53_code "BesideTom" 2 0 (some (FieldType.int))) : R sdX q z 2 (φI μ ν) (F_BT_cut a0 a1) μ ν 0 [(0, .int a0), (1, .int a1)] [] := by
  unfold F_BT_cut
  refine R_iload_n C 1 d_BT_cut_0 rfl rfl ?_
  refine R_iconst C d_BT_cut_1 (v := 1) (by decide +kernel) ?_
  refine R_icmp_ge C d_BT_cut_2 (tgt := 9) (by decide) ?_ ?_
  · skip
    refine R_iload_n C 0 d_BT_cut_9 rfl rfl ?_
    refine R_iload_n C 1 d_BT_cut_10 rfl rfl ?_
    refine R_idivG C d_BT_cut_11 ?_
    exact R_iret C rfl d_BT_cut_12
  · skip
    refine R_iload_n C 0 d_BT_cut_5 rfl rfl ?_
    refine R_goto C d_BT_cut_6 (tgt := 12) (by decide) ?_
    exact R_iret C rfl d_BT_cut_12
theorem c_BT_cut {q : QT} (hg : GOk sdX q) {a0 : Int32} {a1 : Int32} {μ : Mm} {ν : Ml} {o : Int32} (ho : F_BT_cut a0 a1 = some o) : Ct sdX q y_BT_cut prog_1_method_53_code 2 (some (FieldType.int)) 0 [.int a0, .int a1] μ ν ((φI μ ν) o).1 ((φI μ ν) o).2.1 ((φI μ ν) o).2.2 := Ct_of rfl hg (fun z C => w_BT_cut C) (Nat.le_of_ble_eq_true rfl) ho
def F_Rows_empties (this : Nat) (μ : Mm) : Option (Int32 × Mm) := lt_ (up2 μ this 2 0) fun μ1 => some (0, μ1)
theorem d_Rows_empties_0 : decode prog_6_method_3_code 0 = .ok (.aload_n 0, 1) := by decide +kernel
theorem d_Rows_empties_1 : decode prog_6_method_3_code 1 = .ok (.iconst 0, 1) := by decide +kernel
theorem d_Rows_empties_5 : decode prog_6_method_3_code 5 = .ok (.iconst 0, 1) := by decide +kernel
theorem d_Rows_empties_6 : decode prog_6_method_3_code 6 = .ok (.ireturn, 1) := by decide +kernel
theorem d_Rows_empties_2 : decode prog_6_method_3_code 2 = .ok (.putfield 24, 3) := by decide +kernel
set_option maxRecDepth 10000 in
set_option maxHeartbeats 4000000 in
theorem w_Rows_empties {q : QT} {z : ZT} {this : Nat} {μ : Mm} {ν : Ml} (C : Ctx sdX q z prog_6_method_3_code "BesideTom$Rows" 1 0 (some (FieldType.int))) (h_this : this ∈ rowsI) : R sdX q z 1 (φIm ν) (F_Rows_empties this μ) μ ν 0 [(0, .ref (q.2.2.1 this))] [] := by
  unfold F_Rows_empties
  refine R_aload_n C 0 d_Rows_empties_0 rfl rfl ?_
  refine R_iconst C d_Rows_empties_1 (v := 0) (by decide +kernel) ?_
  refine pf_Rows_many C h_this fl_Rows_24 d_Rows_empties_2 (fun μ1 => ?_)
  refine R_iconst C d_Rows_empties_5 (v := 0) (by decide +kernel) ?_
  exact R_iret C rfl d_Rows_empties_6
theorem c_Rows_empties {q : QT} (hg : GOk sdX q) {this : Nat} {μ : Mm} {ν : Ml} (h_this : this ∈ rowsI) {o : Int32 × Mm} (ho : F_Rows_empties this μ = some o) : Ct sdX q y_Rows_empties prog_6_method_3_code 1 (some (FieldType.int)) 0 [.ref (q.2.2.1 this)] μ ν ((φIm ν) o).1 ((φIm ν) o).2.1 ((φIm ν) o).2.2 := Ct_of rfl hg (fun z C => w_Rows_empties C h_this) (Nat.le_of_ble_eq_true rfl) ho
def F_Rooms_fails (μ : Mm) : Option (Mm) := jn (α := Mm) (fun K4 => (if 0 ≤ (μ 1 6) then K4 μ else lt_ (up2 μ 1 6 (μ 1 4)) fun μ1 => K4 μ1)) (fun (μ2 : Mm) => lt_ (up2 μ2 1 5 (-1)) fun μ3 => some μ3)
theorem d_Rooms_fails_0 : decode prog_5_method_10_code 0 = .ok (.aload_n 0, 1) := by decide +kernel
theorem d_Rooms_fails_7 : decode prog_5_method_10_code 7 = .ok (.aload_n 0, 1) := by decide +kernel
theorem d_Rooms_fails_8 : decode prog_5_method_10_code 8 = .ok (.aload_n 0, 1) := by decide +kernel
theorem d_Rooms_fails_9 : decode prog_5_method_10_code 9 = .ok (.getfield 67, 3) := by decide +kernel
theorem d_Rooms_fails_4 : decode prog_5_method_10_code 4 = .ok (.ifCond .ge 11, 3) := by decide +kernel
theorem d_Rooms_fails_15 : decode prog_5_method_10_code 15 = .ok (.aload_n 0, 1) := by decide +kernel
theorem d_Rooms_fails_16 : decode prog_5_method_10_code 16 = .ok (.iconst (-1), 1) := by decide +kernel
theorem d_Rooms_fails_20 : decode prog_5_method_10_code 20 = .ok (.return_, 1) := by decide +kernel
theorem d_Rooms_fails_1 : decode prog_5_method_10_code 1 = .ok (.getfield 64, 3) := by decide +kernel
theorem d_Rooms_fails_17 : decode prog_5_method_10_code 17 = .ok (.putfield 46, 3) := by decide +kernel
theorem d_Rooms_fails_12 : decode prog_5_method_10_code 12 = .ok (.putfield 64, 3) := by decide +kernel
set_option maxRecDepth 10000 in
set_option maxHeartbeats 4000000 in
theorem w_Rooms_fails {q : QT} {z : ZT} {μ : Mm} {ν : Ml} (C : Ctx sdX q z prog_5_method_10_code "BesideTom$Rooms" 1 0 none) : R sdX q z 1 (φVm ν) (F_Rooms_fails μ) μ ν 0 [(0, .ref (q.2.2.1 1))] [] := by
  unfold F_Rooms_fails
  refine R_aload_n C 0 d_Rooms_fails_0 rfl rfl ?_
  refine gf_Rooms_fault C fl_Rooms_64 d_Rooms_fails_1 ?_
  refine R_jn (fun K4 => ∀ (μ2 : Mm), R sdX q z 1 (φVm ν) (K4 μ2) μ2 ν 15 [(0, .ref (q.2.2.1 1))] []) ?_ (fun K4 hK4 => ?_)
  · intro μ2
    refine R_aload_n C 0 d_Rooms_fails_15 rfl rfl ?_
    refine R_iconst C d_Rooms_fails_16 (v := (-1)) (by decide +kernel) ?_
    refine pf_Rooms_sign C fl_Rooms_46 d_Rooms_fails_17 (fun μ3 => ?_)
    exact R_vret C rfl d_Rooms_fails_20
  · skip
    refine R_if_ge C d_Rooms_fails_4 (tgt := 15) (by decide) ?_ ?_
    · skip
      exact R_sub [0] rfl (hK4 μ)
    · skip
      refine R_aload_n C 0 d_Rooms_fails_7 rfl rfl ?_
      refine R_aload_n C 0 d_Rooms_fails_8 rfl rfl ?_
      refine gf_Rooms_at C fl_Rooms_67 d_Rooms_fails_9 ?_
      refine pf_Rooms_fault C fl_Rooms_64 d_Rooms_fails_12 (fun μ1 => ?_)
      exact R_sub [0] rfl (hK4 μ1)
theorem c_Rooms_fails {q : QT} (hg : GOk sdX q) {μ : Mm} {ν : Ml} {o : Mm} (ho : F_Rooms_fails μ = some o) : Ct sdX q y_Rooms_fails prog_5_method_10_code 1 none 0 [.ref (q.2.2.1 1)] μ ν ((φVm ν) o).1 ((φVm ν) o).2.1 ((φVm ν) o).2.2 := Ct_of rfl hg (fun z C => w_Rooms_fails C) (Nat.le_of_ble_eq_true rfl) ho
def F_Rooms_forgetsText (μ : Mm) : Option (Mm) := (wrI μ 10 7 (μ 1 2) 0).bind fun μ1 => some μ1
theorem d_Rooms_forgetsText_0 : decode prog_5_method_4_code 0 = .ok (.aload_n 0, 1) := by decide +kernel
theorem d_Rooms_forgetsText_4 : decode prog_5_method_4_code 4 = .ok (.aload_n 0, 1) := by decide +kernel
theorem d_Rooms_forgetsText_8 : decode prog_5_method_4_code 8 = .ok (.iconst 0, 1) := by decide +kernel
theorem d_Rooms_forgetsText_10 : decode prog_5_method_4_code 10 = .ok (.return_, 1) := by decide +kernel
theorem d_Rooms_forgetsText_9 : decode prog_5_method_4_code 9 = .ok (.iastore, 1) := by decide +kernel
theorem d_Rooms_forgetsText_5 : decode prog_5_method_4_code 5 = .ok (.getfield 20, 3) := by decide +kernel
theorem d_Rooms_forgetsText_1 : decode prog_5_method_4_code 1 = .ok (.getfield 16, 3) := by decide +kernel
set_option maxRecDepth 10000 in
set_option maxHeartbeats 4000000 in
theorem w_Rooms_forgetsText {q : QT} {z : ZT} {μ : Mm} {ν : Ml} (C : Ctx sdX q z prog_5_method_4_code "BesideTom$Rooms" 1 0 none) : R sdX q z 1 (φVm ν) (F_Rooms_forgetsText μ) μ ν 0 [(0, .ref (q.2.2.1 1))] [] := by
  unfold F_Rooms_forgetsText
  refine R_aload_n C 0 d_Rooms_forgetsText_0 rfl rfl ?_
  refine gf_Rooms_lengths C fl_Rooms_16 d_Rooms_forgetsText_1 ?_
  refine R_aload_n C 0 d_Rooms_forgetsText_4 rfl rfl ?_
  refine gf_Rooms_many C fl_Rooms_20 d_Rooms_forgetsText_5 ?_
  refine R_iconst C d_Rooms_forgetsText_8 (v := 0) (by decide +kernel) ?_
  refine R_iast C xm_10 (fun h => xc_10 q h _) d_Rooms_forgetsText_9 (fun μ1 => ?_)
  exact R_vret C rfl d_Rooms_forgetsText_10
theorem c_Rooms_forgetsText {q : QT} (hg : GOk sdX q) {μ : Mm} {ν : Ml} {o : Mm} (ho : F_Rooms_forgetsText μ = some o) : Ct sdX q y_Rooms_forgetsText prog_5_method_4_code 1 none 0 [.ref (q.2.2.1 1)] μ ν ((φVm ν) o).1 ((φVm ν) o).2.1 ((φVm ν) o).2.2 := Ct_of rfl hg (fun z C => w_Rooms_forgetsText C) (Nat.le_of_ble_eq_true rfl) ho
def F_Seat_has (this : Nat) (a1 : Int32) (μ : Mm) : Option (Int32) := (if a1 < 0 then some 0 else (if (μ this 1) ≤ a1 then some 0 else some 1))
theorem d_Seat_has_0 : decode prog_7_method_4_code 0 = .ok (.iload_n 1, 1) := by decide +kernel
theorem d_Seat_has_16 : decode prog_7_method_4_code 16 = .ok (.iconst 0, 1) := by decide +kernel
theorem d_Seat_has_17 : decode prog_7_method_4_code 17 = .ok (.ireturn, 1) := by decide +kernel
theorem d_Seat_has_4 : decode prog_7_method_4_code 4 = .ok (.iload_n 1, 1) := by decide +kernel
theorem d_Seat_has_5 : decode prog_7_method_4_code 5 = .ok (.aload_n 0, 1) := by decide +kernel
theorem d_Seat_has_12 : decode prog_7_method_4_code 12 = .ok (.iconst 1, 1) := by decide +kernel
theorem d_Seat_has_13 : decode prog_7_method_4_code 13 = .ok (.goto 4, 3) := by decide +kernel
theorem d_Seat_has_9 : decode prog_7_method_4_code 9 = .ok (.if_icmp .ge 7, 3) := by decide +kernel
theorem d_Seat_has_6 : decode prog_7_method_4_code 6 = .ok (.getfield 59, 3) := by decide +kernel
theorem d_Seat_has_1 : decode prog_7_method_4_code 1 = .ok (.ifCond .lt 15, 3) := by decide +kernel
set_option maxRecDepth 10000 in
set_option maxHeartbeats 4000000 in
theorem w_Seat_has {q : QT} {z : ZT} {this : Nat} {a1 : Int32} {μ : Mm} {ν : Ml} (C : Ctx sdX q z prog_7_method_4_code "BesideTom$Seating" 2 0 (some (FieldType.boolean))) (h_this : this ∈ seats) : R sdX q z 2 (φI μ ν) (F_Seat_has this a1 μ) μ ν 0 [(0, .ref (q.2.2.1 this)), (1, .int a1)] [] := by
  unfold F_Seat_has
  refine R_iload_n C 1 d_Seat_has_0 rfl rfl ?_
  refine R_if_lt C d_Seat_has_1 (tgt := 16) (by decide) ?_ ?_
  · skip
    refine R_iconst C d_Seat_has_16 (v := 0) (by decide +kernel) ?_
    exact R_zret C (by decide) rfl d_Seat_has_17
  · skip
    refine R_iload_n C 1 d_Seat_has_4 rfl rfl ?_
    refine R_aload_n C 0 d_Seat_has_5 rfl rfl ?_
    refine gf_Seat_many C h_this fl_Seat_59 d_Seat_has_6 ?_
    refine R_icmp_ge C d_Seat_has_9 (tgt := 16) (by decide) ?_ ?_
    · skip
      refine R_iconst C d_Seat_has_16 (v := 0) (by decide +kernel) ?_
      exact R_zret C (by decide) rfl d_Seat_has_17
    · skip
      refine R_iconst C d_Seat_has_12 (v := 1) (by decide +kernel) ?_
      refine R_goto C d_Seat_has_13 (tgt := 17) (by decide) ?_
      exact R_zret C (by decide) rfl d_Seat_has_17
theorem c_Seat_has {q : QT} (hg : GOk sdX q) {this : Nat} {a1 : Int32} {μ : Mm} {ν : Ml} (h_this : this ∈ seats) {o : Int32} (ho : F_Seat_has this a1 μ = some o) : Ct sdX q y_Seat_has prog_7_method_4_code 2 (some (FieldType.boolean)) 0 [.ref (q.2.2.1 this), .int a1] μ ν ((φI μ ν) o).1 ((φI μ ν) o).2.1 ((φI μ ν) o).2.2 := Ct_of rfl hg (fun z C => w_Seat_has C h_this) (Nat.le_of_ble_eq_true rfl) ho
def F_Rooms_isDigit (μ : Mm) : Option (Int32) := (if (μ 1 5) < 48 then some 0 else (if 57 < (μ 1 5) then some 0 else some 1))
theorem d_Rooms_isDigit_0 : decode prog_5_method_15_code 0 = .ok (.aload_n 0, 1) := by decide +kernel
theorem d_Rooms_isDigit_4 : decode prog_5_method_15_code 4 = .ok (.bipush 48, 2) := by decide +kernel
theorem d_Rooms_isDigit_22 : decode prog_5_method_15_code 22 = .ok (.iconst 0, 1) := by decide +kernel
theorem d_Rooms_isDigit_23 : decode prog_5_method_15_code 23 = .ok (.ireturn, 1) := by decide +kernel
theorem d_Rooms_isDigit_9 : decode prog_5_method_15_code 9 = .ok (.aload_n 0, 1) := by decide +kernel
theorem d_Rooms_isDigit_13 : decode prog_5_method_15_code 13 = .ok (.bipush 57, 2) := by decide +kernel
theorem d_Rooms_isDigit_18 : decode prog_5_method_15_code 18 = .ok (.iconst 1, 1) := by decide +kernel
theorem d_Rooms_isDigit_19 : decode prog_5_method_15_code 19 = .ok (.goto 4, 3) := by decide +kernel
theorem d_Rooms_isDigit_15 : decode prog_5_method_15_code 15 = .ok (.if_icmp .gt 7, 3) := by decide +kernel
theorem d_Rooms_isDigit_10 : decode prog_5_method_15_code 10 = .ok (.getfield 46, 3) := by decide +kernel
theorem d_Rooms_isDigit_6 : decode prog_5_method_15_code 6 = .ok (.if_icmp .lt 16, 3) := by decide +kernel
theorem d_Rooms_isDigit_1 : decode prog_5_method_15_code 1 = .ok (.getfield 46, 3) := by decide +kernel
set_option maxRecDepth 10000 in
set_option maxHeartbeats 4000000 in
theorem w_Rooms_isDigit {q : QT} {z : ZT} {μ : Mm} {ν : Ml} (C : Ctx sdX q z prog_5_method_15_code "BesideTom$Rooms" 1 0 (some (FieldType.boolean))) : R sdX q z 1 (φI μ ν) (F_Rooms_isDigit μ) μ ν 0 [(0, .ref (q.2.2.1 1))] [] := by
  unfold F_Rooms_isDigit
  refine R_aload_n C 0 d_Rooms_isDigit_0 rfl rfl ?_
  refine gf_Rooms_sign C fl_Rooms_46 d_Rooms_isDigit_1 ?_
  refine R_bipush C d_Rooms_isDigit_4 (v := 48) (by decide +kernel) ?_
  refine R_icmp_lt C d_Rooms_isDigit_6 (tgt := 22) (by decide) ?_ ?_
  · skip
    refine R_iconst C d_Rooms_isDigit_22 (v := 0) (by decide +kernel) ?_
    exact R_zret C (by decide) rfl d_Rooms_isDigit_23
  · skip
    refine R_aload_n C 0 d_Rooms_isDigit_9 rfl rfl ?_
    refine gf_Rooms_sign C fl_Rooms_46 d_Rooms_isDigit_10 ?_
    refine R_bipush C d_Rooms_isDigit_13 (v := 57) (by decide +kernel) ?_
    refine R_icmp_gt C d_Rooms_isDigit_15 (tgt := 22) (by decide) ?_ ?_
    · skip
      refine R_iconst C d_Rooms_isDigit_22 (v := 0) (by decide +kernel) ?_
      exact R_zret C (by decide) rfl d_Rooms_isDigit_23
    · skip
      refine R_iconst C d_Rooms_isDigit_18 (v := 1) (by decide +kernel) ?_
      refine R_goto C d_Rooms_isDigit_19 (tgt := 23) (by decide) ?_
      exact R_zret C (by decide) rfl d_Rooms_isDigit_23
theorem c_Rooms_isDigit {q : QT} (hg : GOk sdX q) {μ : Mm} {ν : Ml} {o : Int32} (ho : F_Rooms_isDigit μ = some o) : Ct sdX q y_Rooms_isDigit prog_5_method_15_code 1 (some (FieldType.boolean)) 0 [.ref (q.2.2.1 1)] μ ν ((φI μ ν) o).1 ((φI μ ν) o).2.1 ((φI μ ν) o).2.2 := Ct_of rfl hg (fun z C => w_Rooms_isDigit C) (Nat.le_of_ble_eq_true rfl) ho
def F_BT_isRange (a1 : Int32) (a2 : Int32) (a3 : Int32) (μ : Mm) : Option (Int32) := (if a3 < 0 then some 0 else (if a2 < 0 then some 0 else (rdI (μ 22) 6 a1).bind fun v1 => (if v1 < a2 then some 0 else (rdI (μ 22) 6 a1).bind fun v2 => (if (v2 - a2) < a3 then some 0 else some 1))))
theorem d_BT_isRange_0 : decode prog_1_method_46_code 0 = .ok (.iload_n 3, 1) := by decide +kernel
theorem d_BT_isRange_34 : decode prog_1_method_46_code 34 = .ok (.iconst 0, 1) := by decide +kernel
theorem d_BT_isRange_35 : decode prog_1_method_46_code 35 = .ok (.ireturn, 1) := by decide +kernel
theorem d_BT_isRange_4 : decode prog_1_method_46_code 4 = .ok (.iload_n 2, 1) := by decide +kernel
theorem d_BT_isRange_8 : decode prog_1_method_46_code 8 = .ok (.iload_n 2, 1) := by decide +kernel
theorem d_BT_isRange_9 : decode prog_1_method_46_code 9 = .ok (.aload_n 0, 1) := by decide +kernel
theorem d_BT_isRange_13 : decode prog_1_method_46_code 13 = .ok (.iload_n 1, 1) := by decide +kernel
theorem d_BT_isRange_18 : decode prog_1_method_46_code 18 = .ok (.iload_n 3, 1) := by decide +kernel
theorem d_BT_isRange_19 : decode prog_1_method_46_code 19 = .ok (.aload_n 0, 1) := by decide +kernel
theorem d_BT_isRange_23 : decode prog_1_method_46_code 23 = .ok (.iload_n 1, 1) := by decide +kernel
theorem d_BT_isRange_25 : decode prog_1_method_46_code 25 = .ok (.iload_n 2, 1) := by decide +kernel
theorem d_BT_isRange_26 : decode prog_1_method_46_code 26 = .ok (.isub, 1) := by decide +kernel
theorem d_BT_isRange_30 : decode prog_1_method_46_code 30 = .ok (.iconst 1, 1) := by decide +kernel
theorem d_BT_isRange_31 : decode prog_1_method_46_code 31 = .ok (.goto 4, 3) := by decide +kernel
theorem d_BT_isRange_27 : decode prog_1_method_46_code 27 = .ok (.if_icmp .gt 7, 3) := by decide +kernel
theorem d_BT_isRange_20 : decode prog_1_method_46_code 20 = .ok (.getfield 23, 3) := by decide +kernel
theorem d_BT_isRange_15 : decode prog_1_method_46_code 15 = .ok (.if_icmp .gt 19, 3) := by decide +kernel
theorem d_BT_isRange_10 : decode prog_1_method_46_code 10 = .ok (.getfield 23, 3) := by decide +kernel
theorem d_BT_isRange_5 : decode prog_1_method_46_code 5 = .ok (.ifCond .lt 29, 3) := by decide +kernel
theorem d_BT_isRange_1 : decode prog_1_method_46_code 1 = .ok (.ifCond .lt 33, 3) := by decide +kernel
theorem d_BT_isRange_14 : decode prog_1_method_46_code 14 = .ok (.iaload, 1) := by decide +kernel
theorem d_BT_isRange_24 : decode prog_1_method_46_code 24 = .ok (.iaload, 1) := by decide +kernel
set_option maxRecDepth 10000 in
set_option maxHeartbeats 4000000 in
theorem w_BT_isRange {q : QT} {z : ZT} {a1 : Int32} {a2 : Int32} {a3 : Int32} {μ : Mm} {ν : Ml} (C : Ctx sdX q z prog_1_method_46_code "BesideTom" 4 0 (some (FieldType.boolean))) : R sdX q z 4 (φI μ ν) (F_BT_isRange a1 a2 a3 μ) μ ν 0 [(0, .ref (q.2.2.1 0)), (1, .int a1), (2, .int a2), (3, .int a3)] [] := by
  unfold F_BT_isRange
  refine R_iload_n C 3 d_BT_isRange_0 rfl rfl ?_
  refine R_if_lt C d_BT_isRange_1 (tgt := 34) (by decide) ?_ ?_
  · skip
    refine R_iconst C d_BT_isRange_34 (v := 0) (by decide +kernel) ?_
    exact R_zret C (by decide) rfl d_BT_isRange_35
  · skip
    refine R_iload_n C 2 d_BT_isRange_4 rfl rfl ?_
    refine R_if_lt C d_BT_isRange_5 (tgt := 34) (by decide) ?_ ?_
    · skip
      refine R_iconst C d_BT_isRange_34 (v := 0) (by decide +kernel) ?_
      exact R_zret C (by decide) rfl d_BT_isRange_35
    · skip
      refine R_iload_n C 2 d_BT_isRange_8 rfl rfl ?_
      refine R_aload_n C 0 d_BT_isRange_9 rfl rfl ?_
      refine gf_BT_sizes C fl_BT_23 d_BT_isRange_10 ?_
      refine R_iload_n C 1 d_BT_isRange_13 rfl rfl ?_
      refine R_iald C xm_22 (xc_22 q _ _) d_BT_isRange_14 (fun v1 => ?_)
      refine R_icmp_gt C d_BT_isRange_15 (tgt := 34) (by decide) ?_ ?_
      · skip
        refine R_iconst C d_BT_isRange_34 (v := 0) (by decide +kernel) ?_
        exact R_zret C (by decide) rfl d_BT_isRange_35
      · skip
        refine R_iload_n C 3 d_BT_isRange_18 rfl rfl ?_
        refine R_aload_n C 0 d_BT_isRange_19 rfl rfl ?_
        refine gf_BT_sizes C fl_BT_23 d_BT_isRange_20 ?_
        refine R_iload_n C 1 d_BT_isRange_23 rfl rfl ?_
        refine R_iald C xm_22 (xc_22 q _ _) d_BT_isRange_24 (fun v2 => ?_)
        refine R_iload_n C 2 d_BT_isRange_25 rfl rfl ?_
        refine R_isub C d_BT_isRange_26 ?_
        refine R_icmp_gt C d_BT_isRange_27 (tgt := 34) (by decide) ?_ ?_
        · skip
          refine R_iconst C d_BT_isRange_34 (v := 0) (by decide +kernel) ?_
          exact R_zret C (by decide) rfl d_BT_isRange_35
        · skip
          refine R_iconst C d_BT_isRange_30 (v := 1) (by decide +kernel) ?_
          refine R_goto C d_BT_isRange_31 (tgt := 35) (by decide) ?_
          exact R_zret C (by decide) rfl d_BT_isRange_35
theorem c_BT_isRange {q : QT} (hg : GOk sdX q) {a1 : Int32} {a2 : Int32} {a3 : Int32} {μ : Mm} {ν : Ml} {o : Int32} (ho : F_BT_isRange a1 a2 a3 μ = some o) : Ct sdX q y_BT_isRange prog_1_method_46_code 4 (some (FieldType.boolean)) 0 [.ref (q.2.2.1 0), .int a1, .int a2, .int a3] μ ν ((φI μ ν) o).1 ((φI μ ν) o).2.1 ((φI μ ν) o).2.2 := Ct_of rfl hg (fun z C => w_BT_isRange C) (Nat.le_of_ble_eq_true rfl) ho
def F_PK_isUnder (this : Nat) (a1 : Int32) : Option (Int32) := (if a1 = 0 then some 1 else some 0)
theorem d_PK_isUnder_0 : decode prog_3_method_2_code 0 = .ok (.iload_n 1, 1) := by decide +kernel
theorem d_PK_isUnder_8 : decode prog_3_method_2_code 8 = .ok (.iconst 0, 1) := by decide +kernel
theorem d_PK_isUnder_9 : decode prog_3_method_2_code 9 = .ok (.ireturn, 1) := by decide +kernel
theorem d_PK_isUnder_4 : decode prog_3_method_2_code 4 = .ok (.iconst 1, 1) := by decide +kernel
theorem d_PK_isUnder_5 : decode prog_3_method_2_code 5 = .ok (.goto 4, 3) := by decide +kernel
theorem d_PK_isUnder_1 : decode prog_3_method_2_code 1 = .ok (.ifCond .ne 7, 3) := by decide +kernel
set_option maxRecDepth 10000 in
set_option maxHeartbeats 4000000 in
theorem w_PK_isUnder {q : QT} {z : ZT} {this : Nat} {a1 : Int32} {μ : Mm} {ν : Ml} (C : Ctx sdX q z prog_3_method_2_code "BesideTom$PupilKind" 2 0 (some (FieldType.boolean))) (h_this : this ∈ kd_PK) : R sdX q z 2 (φI μ ν) (F_PK_isUnder this a1) μ ν 0 [(0, .ref (q.2.2.1 this)), (1, .int a1)] [] := by
  unfold F_PK_isUnder
  refine R_iload_n C 1 d_PK_isUnder_0 rfl rfl ?_
  refine R_if_ne C d_PK_isUnder_1 (tgt := 8) (by decide) ?_ ?_
  · skip
    refine R_iconst C d_PK_isUnder_8 (v := 0) (by decide +kernel) ?_
    exact R_zret C (by decide) rfl d_PK_isUnder_9
  · skip
    refine R_iconst C d_PK_isUnder_4 (v := 1) (by decide +kernel) ?_
    refine R_goto C d_PK_isUnder_5 (tgt := 9) (by decide) ?_
    exact R_zret C (by decide) rfl d_PK_isUnder_9
theorem c_PK_isUnder {q : QT} (hg : GOk sdX q) {this : Nat} {a1 : Int32} {μ : Mm} {ν : Ml} (h_this : this ∈ kd_PK) {o : Int32} (ho : F_PK_isUnder this a1 = some o) : Ct sdX q y_PK_isUnder prog_3_method_2_code 2 (some (FieldType.boolean)) 0 [.ref (q.2.2.1 this), .int a1] μ ν ((φI μ ν) o).1 ((φI μ ν) o).2.1 ((φI μ ν) o).2.2 := Ct_of rfl hg (fun z C => w_PK_isUnder C h_this) (Nat.le_of_ble_eq_true rfl) ho
def F_Rooms_keepsText (μ : Mm) : Option (Int32 × Mm) := (if 6 ≤ (μ 1 2) then some ((-4), μ) else lt_ (up2 μ 1 2 ((μ 1 2) + 1)) fun μ1 => some ((μ 1 2), μ1))
theorem d_Rooms_keepsText_0 : decode prog_5_method_5_code 0 = .ok (.aload_n 0, 1) := by decide +kernel
theorem d_Rooms_keepsText_4 : decode prog_5_method_5_code 4 = .ok (.bipush 6, 2) := by decide +kernel
theorem d_Rooms_keepsText_23 : decode prog_5_method_5_code 23 = .ok (.bipush (-4), 2) := by decide +kernel
theorem d_Rooms_keepsText_25 : decode prog_5_method_5_code 25 = .ok (.ireturn, 1) := by decide +kernel
theorem d_Rooms_keepsText_9 : decode prog_5_method_5_code 9 = .ok (.aload_n 0, 1) := by decide +kernel
theorem d_Rooms_keepsText_10 : decode prog_5_method_5_code 10 = .ok (.dup, 1) := by decide +kernel
theorem d_Rooms_keepsText_14 : decode prog_5_method_5_code 14 = .ok (.dup_x1, 1) := by decide +kernel
theorem d_Rooms_keepsText_15 : decode prog_5_method_5_code 15 = .ok (.iconst 1, 1) := by decide +kernel
theorem d_Rooms_keepsText_16 : decode prog_5_method_5_code 16 = .ok (.iadd, 1) := by decide +kernel
theorem d_Rooms_keepsText_20 : decode prog_5_method_5_code 20 = .ok (.goto 5, 3) := by decide +kernel
theorem d_Rooms_keepsText_11 : decode prog_5_method_5_code 11 = .ok (.getfield 20, 3) := by decide +kernel
theorem d_Rooms_keepsText_6 : decode prog_5_method_5_code 6 = .ok (.if_icmp .ge 17, 3) := by decide +kernel
theorem d_Rooms_keepsText_1 : decode prog_5_method_5_code 1 = .ok (.getfield 20, 3) := by decide +kernel
theorem d_Rooms_keepsText_17 : decode prog_5_method_5_code 17 = .ok (.putfield 20, 3) := by decide +kernel
set_option maxRecDepth 10000 in
set_option maxHeartbeats 4000000 in
theorem w_Rooms_keepsText {q : QT} {z : ZT} {μ : Mm} {ν : Ml} (C : Ctx sdX q z prog_5_method_5_code "BesideTom$Rooms" 1 0 (some (FieldType.int))) : R sdX q z 1 (φIm ν) (F_Rooms_keepsText μ) μ ν 0 [(0, .ref (q.2.2.1 1))] [] := by
  unfold F_Rooms_keepsText
  refine R_aload_n C 0 d_Rooms_keepsText_0 rfl rfl ?_
  refine gf_Rooms_many C fl_Rooms_20 d_Rooms_keepsText_1 ?_
  refine R_bipush C d_Rooms_keepsText_4 (v := 6) (by decide +kernel) ?_
  refine R_icmp_ge C d_Rooms_keepsText_6 (tgt := 23) (by decide) ?_ ?_
  · skip
    refine R_bipush C d_Rooms_keepsText_23 (v := (-4)) (by decide +kernel) ?_
    exact R_iret C rfl d_Rooms_keepsText_25
  · skip
    refine R_aload_n C 0 d_Rooms_keepsText_9 rfl rfl ?_
    refine R_dup C d_Rooms_keepsText_10 rfl ?_
    refine gf_Rooms_many C fl_Rooms_20 d_Rooms_keepsText_11 ?_
    refine R_dup_x1 C d_Rooms_keepsText_14 rfl rfl ?_
    refine R_iconst C d_Rooms_keepsText_15 (v := 1) (by decide +kernel) ?_
    refine R_iadd C d_Rooms_keepsText_16 ?_
    refine pf_Rooms_many C fl_Rooms_20 d_Rooms_keepsText_17 (fun μ1 => ?_)
    refine R_goto C d_Rooms_keepsText_20 (tgt := 25) (by decide) ?_
    exact R_iret C rfl d_Rooms_keepsText_25
theorem c_Rooms_keepsText {q : QT} (hg : GOk sdX q) {μ : Mm} {ν : Ml} {o : Int32 × Mm} (ho : F_Rooms_keepsText μ = some o) : Ct sdX q y_Rooms_keepsText prog_5_method_5_code 1 (some (FieldType.int)) 0 [.ref (q.2.2.1 1)] μ ν ((φIm ν) o).1 ((φIm ν) o).2.1 ((φIm ν) o).2.2 := Ct_of rfl hg (fun z C => w_Rooms_keepsText C) (Nat.le_of_ble_eq_true rfl) ho
def F_Seat_kindOf (this : Nat) (a1 : Int32) (μ : Mm) : Option (Nat) := (rdI (μ (this + 1)) 6 a1).bind fun v1 => (rdR 24 7 v1).bind fun c2 => some c2
theorem d_Seat_kindOf_0 : decode prog_7_method_5_code 0 = .ok (.aload_n 0, 1) := by decide +kernel
theorem d_Seat_kindOf_4 : decode prog_7_method_5_code 4 = .ok (.aload_n 0, 1) := by decide +kernel
theorem d_Seat_kindOf_8 : decode prog_7_method_5_code 8 = .ok (.iload_n 1, 1) := by decide +kernel
theorem d_Seat_kindOf_11 : decode prog_7_method_5_code 11 = .ok (.areturn, 1) := by decide +kernel
theorem d_Seat_kindOf_5 : decode prog_7_method_5_code 5 = .ok (.getfield 21, 3) := by decide +kernel
theorem d_Seat_kindOf_1 : decode prog_7_method_5_code 1 = .ok (.getfield 55, 3) := by decide +kernel
theorem d_Seat_kindOf_9 : decode prog_7_method_5_code 9 = .ok (.iaload, 1) := by decide +kernel
theorem d_Seat_kindOf_10 : decode prog_7_method_5_code 10 = .ok (.aaload, 1) := by decide +kernel
set_option maxRecDepth 10000 in
set_option maxHeartbeats 4000000 in
theorem w_Seat_kindOf {q : QT} {z : ZT} {this : Nat} {a1 : Int32} {μ : Mm} {ν : Ml} (C : Ctx sdX q z prog_7_method_5_code "BesideTom$Seating" 2 0 (some ((FieldType.object "BesideTom$PupilKind")))) (h_this : this ∈ seats) : R sdX q z 2 (φR q μ ν) (F_Seat_kindOf this a1 μ) μ ν 0 [(0, .ref (q.2.2.1 this)), (1, .int a1)] [] := by
  unfold F_Seat_kindOf
  refine R_aload_n C 0 d_Seat_kindOf_0 rfl rfl ?_
  refine gf_Seat_kinds C h_this fl_Seat_55 d_Seat_kindOf_1 ?_
  refine R_aload_n C 0 d_Seat_kindOf_4 rfl rfl ?_
  refine gf_Seat_kind C h_this fl_Seat_21 d_Seat_kindOf_5 ?_
  refine R_iload_n C 1 d_Seat_kindOf_8 rfl rfl ?_
  refine R_iald C (se_1 h_this) (sc_1 h_this q _ _) d_Seat_kindOf_9 (fun v1 => ?_)
  refine R_aald C (ti := 6) (ty := (.object "BesideTom$PupilKind")) xm_23 (xc_23 q _ _) rfl rfl d_Seat_kindOf_10 (fun c2 hc2 => ?_)
  exact R_aret C rfl rfl d_Seat_kindOf_11
theorem c_Seat_kindOf {q : QT} (hg : GOk sdX q) {this : Nat} {a1 : Int32} {μ : Mm} {ν : Ml} (h_this : this ∈ seats) {o : Nat} (ho : F_Seat_kindOf this a1 μ = some o) : Ct sdX q y_Seat_kindOf prog_7_method_5_code 2 (some ((FieldType.object "BesideTom$PupilKind"))) 0 [.ref (q.2.2.1 this), .int a1] μ ν ((φR q μ ν) o).1 ((φR q μ ν) o).2.1 ((φR q μ ν) o).2.2 := Ct_of rfl hg (fun z C => w_Seat_kindOf C h_this) (Nat.le_of_ble_eq_true rfl) ho
theorem kdh_Seat_kindOf {this : Nat} {a1 : Int32} {μ : Mm} {o : Nat} (h : F_Seat_kindOf this a1 μ = some o) : o ∈ kdI := by
  unfold F_Seat_kindOf at h
  obtain ⟨v, h1, h2⟩ := Option.bind_eq_some_iff.mp h
  obtain ⟨c, h3, h4⟩ := Option.bind_eq_some_iff.mp h2
  cases h4
  exact kd_in h3
def L_Seat_knowsOfAll_4 (f3 : Nat) (μ : Mm) (k : Int32 → Option (Int32)) : Nat → Int32 → Int32 → Option (Int32)
  | 0, _, _ => none
  | n + 1, s1, s2 => (if (μ f3 1) ≤ s2 then k s1 else (rdI (μ (f3 + 4)) 6 s2).bind fun v4 => L_Seat_knowsOfAll_4 f3 μ k n (s1 + v4) (s2 + 1))
def F_Seat_knowsOfAll (this : Nat) (μ : Mm) : Option (Int32) := L_Seat_knowsOfAll_4 this μ (fun (x5 : Int32) => some x5) fu 0 0
theorem d_Seat_knowsOfAll_0 : decode prog_7_method_18_code 0 = .ok (.iconst 0, 1) := by decide +kernel
theorem d_Seat_knowsOfAll_1 : decode prog_7_method_18_code 1 = .ok (.istore_n 1, 1) := by decide +kernel
theorem d_Seat_knowsOfAll_2 : decode prog_7_method_18_code 2 = .ok (.iconst 0, 1) := by decide +kernel
theorem d_Seat_knowsOfAll_3 : decode prog_7_method_18_code 3 = .ok (.istore_n 2, 1) := by decide +kernel
theorem d_Seat_knowsOfAll_4 : decode prog_7_method_18_code 4 = .ok (.iload_n 2, 1) := by decide +kernel
theorem d_Seat_knowsOfAll_5 : decode prog_7_method_18_code 5 = .ok (.aload_n 0, 1) := by decide +kernel
theorem d_Seat_knowsOfAll_12 : decode prog_7_method_18_code 12 = .ok (.iload_n 1, 1) := by decide +kernel
theorem d_Seat_knowsOfAll_13 : decode prog_7_method_18_code 13 = .ok (.aload_n 0, 1) := by decide +kernel
theorem d_Seat_knowsOfAll_17 : decode prog_7_method_18_code 17 = .ok (.iload_n 2, 1) := by decide +kernel
theorem d_Seat_knowsOfAll_19 : decode prog_7_method_18_code 19 = .ok (.iadd, 1) := by decide +kernel
theorem d_Seat_knowsOfAll_20 : decode prog_7_method_18_code 20 = .ok (.istore_n 1, 1) := by decide +kernel
theorem d_Seat_knowsOfAll_21 : decode prog_7_method_18_code 21 = .ok (.iinc 2 1, 3) := by decide +kernel
theorem d_Seat_knowsOfAll_24 : decode prog_7_method_18_code 24 = .ok (.goto (-20), 3) := by decide +kernel
theorem d_Seat_knowsOfAll_14 : decode prog_7_method_18_code 14 = .ok (.getfield 31, 3) := by decide +kernel
theorem d_Seat_knowsOfAll_9 : decode prog_7_method_18_code 9 = .ok (.if_icmp .ge 18, 3) := by decide +kernel
theorem d_Seat_knowsOfAll_6 : decode prog_7_method_18_code 6 = .ok (.getfield 59, 3) := by decide +kernel
theorem d_Seat_knowsOfAll_18 : decode prog_7_method_18_code 18 = .ok (.iaload, 1) := by decide +kernel
set_option maxRecDepth 10000 in
set_option maxHeartbeats 4000000 in
theorem W_Seat_knowsOfAll_4 {q : QT} {z : ZT} {μ : Mm} {ν : Ml} {f3 : Nat} {k : Int32 → Option (Int32)} (C : Ctx sdX q z prog_7_method_18_code "BesideTom$Seating" 3 0 (some (FieldType.int))) (h_f3 : f3 ∈ seats) (hk : ∀ (e0_ : Int32), R sdX q z 3 (φI μ ν) (k e0_) μ ν 27 [(1, .int e0_)] []) : ∀ (n : Nat) (s1 : Int32) (s2 : Int32), R sdX q z 3 (φI μ ν) (L_Seat_knowsOfAll_4 f3 μ k n s1 s2) μ ν 4 [(1, .int s1), (2, .int s2), (0, .ref (q.2.2.1 f3))] [] := by
  intro n
  induction n with
  | zero =>
    intros
    exact R_none
  | succ n ih =>
    intro s1 s2
    rw [L_Seat_knowsOfAll_4]
    refine R_iload_n C 1 d_Seat_knowsOfAll_4 rfl rfl ?_
    refine R_aload_n C 2 d_Seat_knowsOfAll_5 rfl rfl ?_
    refine gf_Seat_many C h_f3 fl_Seat_59 d_Seat_knowsOfAll_6 ?_
    refine R_icmp_ge C d_Seat_knowsOfAll_9 (tgt := 27) (by decide) ?_ ?_
    · skip
      exact R_sub [0] rfl (hk s1)
    · skip
      refine R_iload_n C 0 d_Seat_knowsOfAll_12 rfl rfl ?_
      refine R_aload_n C 2 d_Seat_knowsOfAll_13 rfl rfl ?_
      refine gf_Seat_knows C h_f3 fl_Seat_31 d_Seat_knowsOfAll_14 ?_
      refine R_iload_n C 1 d_Seat_knowsOfAll_17 rfl rfl ?_
      refine R_iald C (se_4 h_f3) (sc_4 h_f3 q _ _) d_Seat_knowsOfAll_18 (fun v4 => ?_)
      refine R_iadd C d_Seat_knowsOfAll_19 ?_
      refine R_istore_n C (lv' := [(1, .int (s1 + v4)), (2, .int s2), (0, .ref (q.2.2.1 f3))]) d_Seat_knowsOfAll_20 rfl (by decide) rfl ?_
      refine R_iinc C 1 d_Seat_knowsOfAll_21 rfl (iinc_v _ (v := 1) (by decide +kernel)) (lv' := [(2, .int (s2 + 1)), (1, .int (s1 + v4)), (0, .ref (q.2.2.1 f3))]) (by decide) rfl ?_
      refine R_goto C d_Seat_knowsOfAll_24 (tgt := 4) (by decide) ?_
      exact R_sub [1, 0, 2] rfl (ih (s1 + v4) (s2 + 1))
theorem d_Seat_knowsOfAll_27 : decode prog_7_method_18_code 27 = .ok (.iload_n 1, 1) := by decide +kernel
theorem d_Seat_knowsOfAll_28 : decode prog_7_method_18_code 28 = .ok (.ireturn, 1) := by decide +kernel
set_option maxRecDepth 10000 in
set_option maxHeartbeats 4000000 in
theorem w_Seat_knowsOfAll {q : QT} {z : ZT} {this : Nat} {μ : Mm} {ν : Ml} (C : Ctx sdX q z prog_7_method_18_code "BesideTom$Seating" 3 0 (some (FieldType.int))) (h_this : this ∈ seats) : R sdX q z 3 (φI μ ν) (F_Seat_knowsOfAll this μ) μ ν 0 [(0, .ref (q.2.2.1 this))] [] := by
  unfold F_Seat_knowsOfAll
  refine R_iconst C d_Seat_knowsOfAll_0 (v := 0) (by decide +kernel) ?_
  refine R_istore_n C (lv' := [(1, .int 0), (0, .ref (q.2.2.1 this))]) d_Seat_knowsOfAll_1 rfl (by decide) rfl ?_
  refine R_iconst C d_Seat_knowsOfAll_2 (v := 0) (by decide +kernel) ?_
  refine R_istore_n C (lv' := [(2, .int 0), (1, .int 0), (0, .ref (q.2.2.1 this))]) d_Seat_knowsOfAll_3 rfl (by decide) rfl ?_
  refine R_sub [1, 0, 2] rfl ?_
  refine W_Seat_knowsOfAll_4 C h_this ?_ fu _ _
  intro x5
  refine R_iload_n C 0 d_Seat_knowsOfAll_27 rfl rfl ?_
  exact R_iret C rfl d_Seat_knowsOfAll_28
theorem c_Seat_knowsOfAll {q : QT} (hg : GOk sdX q) {this : Nat} {μ : Mm} {ν : Ml} (h_this : this ∈ seats) {o : Int32} (ho : F_Seat_knowsOfAll this μ = some o) : Ct sdX q y_Seat_knowsOfAll prog_7_method_18_code 3 (some (FieldType.int)) 0 [.ref (q.2.2.1 this)] μ ν ((φI μ ν) o).1 ((φI μ ν) o).2.1 ((φI μ ν) o).2.2 := Ct_of rfl hg (fun z C => w_Seat_knowsOfAll C h_this) (Nat.le_of_ble_eq_true rfl) ho
def F_PK_learning (this : Nat) (a1 : Int32) (a2 : Int32) (a3 : Int32) (a4 : Int32) : Option (Int32) := some a1
theorem d_PK_learning_0 : decode prog_3_method_4_code 0 = .ok (.iload_n 1, 1) := by decide +kernel
theorem d_PK_learning_1 : decode prog_3_method_4_code 1 = .ok (.ireturn, 1) := by decide +kernel
set_option maxRecDepth 10000 in
set_option maxHeartbeats 4000000 in
theorem w_PK_learning {q : QT} {z : ZT} {this : Nat} {a1 : Int32} {a2 : Int32} {a3 : Int32} {a4 : Int32} {μ : Mm} {ν : Ml} (C : Ctx sdX q z prog_3_method_4_code "BesideTom$PupilKind" 5 0 (some (FieldType.int))) (h_this : this ∈ kd_PK) : R sdX q z 5 (φI μ ν) (F_PK_learning this a1 a2 a3 a4) μ ν 0 [(0, .ref (q.2.2.1 this)), (1, .int a1), (2, .int a2), (3, .int a3), (4, .int a4)] [] := by
  unfold F_PK_learning
  refine R_iload_n C 1 d_PK_learning_0 rfl rfl ?_
  exact R_iret C rfl d_PK_learning_1
theorem c_PK_learning {q : QT} (hg : GOk sdX q) {this : Nat} {a1 : Int32} {a2 : Int32} {a3 : Int32} {a4 : Int32} {μ : Mm} {ν : Ml} (h_this : this ∈ kd_PK) {o : Int32} (ho : F_PK_learning this a1 a2 a3 a4 = some o) : Ct sdX q y_PK_learning prog_3_method_4_code 5 (some (FieldType.int)) 0 [.ref (q.2.2.1 this), .int a1, .int a2, .int a3, .int a4] μ ν ((φI μ ν) o).1 ((φI μ ν) o).2.1 ((φI μ ν) o).2.2 := Ct_of rfl hg (fun z C => w_PK_learning C h_this) (Nat.le_of_ble_eq_true rfl) ho
def F_Rooms_letter (μ : Mm) : Option (Int32) := (if (μ 1 5) = 99 then some ((μ 1 10) - (μ 1 10) / 3 * 3) else if (μ 1 5) = 100 then some (μ 1 10) else if (μ 1 5) = 101 then some (-1) else if (μ 1 5) = 102 then some (-1) else if (μ 1 5) = 103 then some (-1) else if (μ 1 5) = 104 then some (-1) else if (μ 1 5) = 105 then some (-1) else if (μ 1 5) = 106 then some (-1) else if (μ 1 5) = 107 then some (μ 1 8) else if (μ 1 5) = 108 then some (-1) else if (μ 1 5) = 109 then some (-1) else if (μ 1 5) = 110 then some (-1) else if (μ 1 5) = 111 then some (-1) else if (μ 1 5) = 112 then some (μ 1 7) else if (μ 1 5) = 113 then some (-1) else if (μ 1 5) = 114 then some ((μ 1 10) / 3) else if (μ 1 5) = 115 then some (-1) else if (μ 1 5) = 116 then some (-1) else if (μ 1 5) = 117 then some (-1) else if (μ 1 5) = 118 then some (μ 1 9) else some (-1))
theorem d_Rooms_letter_0 : decode prog_5_method_19_code 0 = .ok (.aload_n 0, 1) := by decide +kernel
theorem d_Rooms_letter_4 : decode prog_5_method_19_code 4 = .ok (.tableswitch 130 99 118 #[123, 101, 130, 130, 130, 130, 130, 130, 106, 130, 130, 130, 130, 96, 130, 116, 130, 130, 130, 111], 96) := by decide +kernel
theorem d_Rooms_letter_127 : decode prog_5_method_19_code 127 = .ok (.aload_n 0, 1) := by decide +kernel
theorem d_Rooms_letter_131 : decode prog_5_method_19_code 131 = .ok (.iconst 3, 1) := by decide +kernel
theorem d_Rooms_letter_133 : decode prog_5_method_19_code 133 = .ok (.ireturn, 1) := by decide +kernel
theorem d_Rooms_letter_132 : decode prog_5_method_19_code 132 = .ok (.irem, 1) := by decide +kernel
theorem d_Rooms_letter_128 : decode prog_5_method_19_code 128 = .ok (.getfield 83, 3) := by decide +kernel
theorem d_Rooms_letter_105 : decode prog_5_method_19_code 105 = .ok (.aload_n 0, 1) := by decide +kernel
theorem d_Rooms_letter_109 : decode prog_5_method_19_code 109 = .ok (.ireturn, 1) := by decide +kernel
theorem d_Rooms_letter_106 : decode prog_5_method_19_code 106 = .ok (.getfield 83, 3) := by decide +kernel
theorem d_Rooms_letter_134 : decode prog_5_method_19_code 134 = .ok (.iconst (-1), 1) := by decide +kernel
theorem d_Rooms_letter_135 : decode prog_5_method_19_code 135 = .ok (.ireturn, 1) := by decide +kernel
theorem d_Rooms_letter_110 : decode prog_5_method_19_code 110 = .ok (.aload_n 0, 1) := by decide +kernel
theorem d_Rooms_letter_114 : decode prog_5_method_19_code 114 = .ok (.ireturn, 1) := by decide +kernel
theorem d_Rooms_letter_111 : decode prog_5_method_19_code 111 = .ok (.getfield 76, 3) := by decide +kernel
theorem d_Rooms_letter_100 : decode prog_5_method_19_code 100 = .ok (.aload_n 0, 1) := by decide +kernel
theorem d_Rooms_letter_104 : decode prog_5_method_19_code 104 = .ok (.ireturn, 1) := by decide +kernel
theorem d_Rooms_letter_101 : decode prog_5_method_19_code 101 = .ok (.getfield 70, 3) := by decide +kernel
theorem d_Rooms_letter_120 : decode prog_5_method_19_code 120 = .ok (.aload_n 0, 1) := by decide +kernel
theorem d_Rooms_letter_124 : decode prog_5_method_19_code 124 = .ok (.iconst 3, 1) := by decide +kernel
theorem d_Rooms_letter_126 : decode prog_5_method_19_code 126 = .ok (.ireturn, 1) := by decide +kernel
theorem d_Rooms_letter_125 : decode prog_5_method_19_code 125 = .ok (.idiv, 1) := by decide +kernel
theorem d_Rooms_letter_121 : decode prog_5_method_19_code 121 = .ok (.getfield 83, 3) := by decide +kernel
theorem d_Rooms_letter_115 : decode prog_5_method_19_code 115 = .ok (.aload_n 0, 1) := by decide +kernel
theorem d_Rooms_letter_119 : decode prog_5_method_19_code 119 = .ok (.ireturn, 1) := by decide +kernel
theorem d_Rooms_letter_116 : decode prog_5_method_19_code 116 = .ok (.getfield 81, 3) := by decide +kernel
theorem d_Rooms_letter_1 : decode prog_5_method_19_code 1 = .ok (.getfield 46, 3) := by decide +kernel
set_option maxRecDepth 10000 in
set_option maxHeartbeats 4000000 in
theorem w_Rooms_letter {q : QT} {z : ZT} {μ : Mm} {ν : Ml} (C : Ctx sdX q z prog_5_method_19_code "BesideTom$Rooms" 1 0 (some (FieldType.int))) : R sdX q z 1 (φI μ ν) (F_Rooms_letter μ) μ ν 0 [(0, .ref (q.2.2.1 1))] [] := by
  unfold F_Rooms_letter
  refine R_aload_n C 0 d_Rooms_letter_0 rfl rfl ?_
  refine gf_Rooms_sign C fl_Rooms_46 d_Rooms_letter_1 ?_
  refine R_ite (fun e1 => ?_) (fun e1 => ?_)
  · refine R_tsw C e1 d_Rooms_letter_4 (tgt := 127) (by decide +kernel) (by decide +kernel) rfl (by decide) ?_
    refine R_aload_n C 0 d_Rooms_letter_127 rfl rfl ?_
    refine gf_Rooms_desk C fl_Rooms_83 d_Rooms_letter_128 ?_
    refine R_iconst C d_Rooms_letter_131 (v := 3) (by decide +kernel) ?_
    refine R_irem C d_Rooms_letter_132 (by decide) ?_
    exact R_iret C rfl d_Rooms_letter_133
  refine R_ite (fun e2 => ?_) (fun e2 => ?_)
  · refine R_tsw C e2 d_Rooms_letter_4 (tgt := 105) (by decide +kernel) (by decide +kernel) rfl (by decide) ?_
    refine R_aload_n C 0 d_Rooms_letter_105 rfl rfl ?_
    refine gf_Rooms_desk C fl_Rooms_83 d_Rooms_letter_106 ?_
    exact R_iret C rfl d_Rooms_letter_109
  refine R_ite (fun e3 => ?_) (fun e3 => ?_)
  · refine R_tsw C e3 d_Rooms_letter_4 (tgt := 134) (by decide +kernel) (by decide +kernel) rfl (by decide) ?_
    refine R_iconst C d_Rooms_letter_134 (v := (-1)) (by decide +kernel) ?_
    exact R_iret C rfl d_Rooms_letter_135
  refine R_ite (fun e4 => ?_) (fun e4 => ?_)
  · refine R_tsw C e4 d_Rooms_letter_4 (tgt := 134) (by decide +kernel) (by decide +kernel) rfl (by decide) ?_
    refine R_iconst C d_Rooms_letter_134 (v := (-1)) (by decide +kernel) ?_
    exact R_iret C rfl d_Rooms_letter_135
  refine R_ite (fun e5 => ?_) (fun e5 => ?_)
  · refine R_tsw C e5 d_Rooms_letter_4 (tgt := 134) (by decide +kernel) (by decide +kernel) rfl (by decide) ?_
    refine R_iconst C d_Rooms_letter_134 (v := (-1)) (by decide +kernel) ?_
    exact R_iret C rfl d_Rooms_letter_135
  refine R_ite (fun e6 => ?_) (fun e6 => ?_)
  · refine R_tsw C e6 d_Rooms_letter_4 (tgt := 134) (by decide +kernel) (by decide +kernel) rfl (by decide) ?_
    refine R_iconst C d_Rooms_letter_134 (v := (-1)) (by decide +kernel) ?_
    exact R_iret C rfl d_Rooms_letter_135
  refine R_ite (fun e7 => ?_) (fun e7 => ?_)
  · refine R_tsw C e7 d_Rooms_letter_4 (tgt := 134) (by decide +kernel) (by decide +kernel) rfl (by decide) ?_
    refine R_iconst C d_Rooms_letter_134 (v := (-1)) (by decide +kernel) ?_
    exact R_iret C rfl d_Rooms_letter_135
  refine R_ite (fun e8 => ?_) (fun e8 => ?_)
  · refine R_tsw C e8 d_Rooms_letter_4 (tgt := 134) (by decide +kernel) (by decide +kernel) rfl (by decide) ?_
    refine R_iconst C d_Rooms_letter_134 (v := (-1)) (by decide +kernel) ?_
    exact R_iret C rfl d_Rooms_letter_135
  refine R_ite (fun e9 => ?_) (fun e9 => ?_)
  · refine R_tsw C e9 d_Rooms_letter_4 (tgt := 110) (by decide +kernel) (by decide +kernel) rfl (by decide) ?_
    refine R_aload_n C 0 d_Rooms_letter_110 rfl rfl ?_
    refine gf_Rooms_kind C fl_Rooms_76 d_Rooms_letter_111 ?_
    exact R_iret C rfl d_Rooms_letter_114
  refine R_ite (fun e10 => ?_) (fun e10 => ?_)
  · refine R_tsw C e10 d_Rooms_letter_4 (tgt := 134) (by decide +kernel) (by decide +kernel) rfl (by decide) ?_
    refine R_iconst C d_Rooms_letter_134 (v := (-1)) (by decide +kernel) ?_
    exact R_iret C rfl d_Rooms_letter_135
  refine R_ite (fun e11 => ?_) (fun e11 => ?_)
  · refine R_tsw C e11 d_Rooms_letter_4 (tgt := 134) (by decide +kernel) (by decide +kernel) rfl (by decide) ?_
    refine R_iconst C d_Rooms_letter_134 (v := (-1)) (by decide +kernel) ?_
    exact R_iret C rfl d_Rooms_letter_135
  refine R_ite (fun e12 => ?_) (fun e12 => ?_)
  · refine R_tsw C e12 d_Rooms_letter_4 (tgt := 134) (by decide +kernel) (by decide +kernel) rfl (by decide) ?_
    refine R_iconst C d_Rooms_letter_134 (v := (-1)) (by decide +kernel) ?_
    exact R_iret C rfl d_Rooms_letter_135
  refine R_ite (fun e13 => ?_) (fun e13 => ?_)
  · refine R_tsw C e13 d_Rooms_letter_4 (tgt := 134) (by decide +kernel) (by decide +kernel) rfl (by decide) ?_
    refine R_iconst C d_Rooms_letter_134 (v := (-1)) (by decide +kernel) ?_
    exact R_iret C rfl d_Rooms_letter_135
  refine R_ite (fun e14 => ?_) (fun e14 => ?_)
  · refine R_tsw C e14 d_Rooms_letter_4 (tgt := 100) (by decide +kernel) (by decide +kernel) rfl (by decide) ?_
    refine R_aload_n C 0 d_Rooms_letter_100 rfl rfl ?_
    refine gf_Rooms_pupil C fl_Rooms_70 d_Rooms_letter_101 ?_
    exact R_iret C rfl d_Rooms_letter_104
  refine R_ite (fun e15 => ?_) (fun e15 => ?_)
  · refine R_tsw C e15 d_Rooms_letter_4 (tgt := 134) (by decide +kernel) (by decide +kernel) rfl (by decide) ?_
    refine R_iconst C d_Rooms_letter_134 (v := (-1)) (by decide +kernel) ?_
    exact R_iret C rfl d_Rooms_letter_135
  refine R_ite (fun e16 => ?_) (fun e16 => ?_)
  · refine R_tsw C e16 d_Rooms_letter_4 (tgt := 120) (by decide +kernel) (by decide +kernel) rfl (by decide) ?_
    refine R_aload_n C 0 d_Rooms_letter_120 rfl rfl ?_
    refine gf_Rooms_desk C fl_Rooms_83 d_Rooms_letter_121 ?_
    refine R_iconst C d_Rooms_letter_124 (v := 3) (by decide +kernel) ?_
    refine R_idiv C d_Rooms_letter_125 (by decide) ?_
    exact R_iret C rfl d_Rooms_letter_126
  refine R_ite (fun e17 => ?_) (fun e17 => ?_)
  · refine R_tsw C e17 d_Rooms_letter_4 (tgt := 134) (by decide +kernel) (by decide +kernel) rfl (by decide) ?_
    refine R_iconst C d_Rooms_letter_134 (v := (-1)) (by decide +kernel) ?_
    exact R_iret C rfl d_Rooms_letter_135
  refine R_ite (fun e18 => ?_) (fun e18 => ?_)
  · refine R_tsw C e18 d_Rooms_letter_4 (tgt := 134) (by decide +kernel) (by decide +kernel) rfl (by decide) ?_
    refine R_iconst C d_Rooms_letter_134 (v := (-1)) (by decide +kernel) ?_
    exact R_iret C rfl d_Rooms_letter_135
  refine R_ite (fun e19 => ?_) (fun e19 => ?_)
  · refine R_tsw C e19 d_Rooms_letter_4 (tgt := 134) (by decide +kernel) (by decide +kernel) rfl (by decide) ?_
    refine R_iconst C d_Rooms_letter_134 (v := (-1)) (by decide +kernel) ?_
    exact R_iret C rfl d_Rooms_letter_135
  refine R_ite (fun e20 => ?_) (fun e20 => ?_)
  · refine R_tsw C e20 d_Rooms_letter_4 (tgt := 115) (by decide +kernel) (by decide +kernel) rfl (by decide) ?_
    refine R_aload_n C 0 d_Rooms_letter_115 rfl rfl ?_
    refine gf_Rooms_v C fl_Rooms_81 d_Rooms_letter_116 ?_
    exact R_iret C rfl d_Rooms_letter_119
  refine R_tswd C d_Rooms_letter_4 (tgt := 134) (sw_out (L := [99, 100, 101, 102, 103, 104, 105, 106, 107, 108, 109, 110, 111, 112, 113, 114, 115, 116, 117, 118]) (n := 20) (by decide +kernel) (by decide +kernel) (List.forall_mem_cons.mpr ⟨e1, List.forall_mem_cons.mpr ⟨e2, List.forall_mem_cons.mpr ⟨e3, List.forall_mem_cons.mpr ⟨e4, List.forall_mem_cons.mpr ⟨e5, List.forall_mem_cons.mpr ⟨e6, List.forall_mem_cons.mpr ⟨e7, List.forall_mem_cons.mpr ⟨e8, List.forall_mem_cons.mpr ⟨e9, List.forall_mem_cons.mpr ⟨e10, List.forall_mem_cons.mpr ⟨e11, List.forall_mem_cons.mpr ⟨e12, List.forall_mem_cons.mpr ⟨e13, List.forall_mem_cons.mpr ⟨e14, List.forall_mem_cons.mpr ⟨e15, List.forall_mem_cons.mpr ⟨e16, List.forall_mem_cons.mpr ⟨e17, List.forall_mem_cons.mpr ⟨e18, List.forall_mem_cons.mpr ⟨e19, List.forall_mem_cons.mpr ⟨e20, fun _ h => absurd h List.not_mem_nil⟩⟩⟩⟩⟩⟩⟩⟩⟩⟩⟩⟩⟩⟩⟩⟩⟩⟩⟩⟩)) (by decide) ?_
  refine R_iconst C d_Rooms_letter_134 (v := (-1)) (by decide +kernel) ?_
  exact R_iret C rfl d_Rooms_letter_135
theorem c_Rooms_letter {q : QT} (hg : GOk sdX q) {μ : Mm} {ν : Ml} {o : Int32} (ho : F_Rooms_letter μ = some o) : Ct sdX q y_Rooms_letter prog_5_method_19_code 1 (some (FieldType.int)) 0 [.ref (q.2.2.1 1)] μ ν ((φI μ ν) o).1 ((φI μ ν) o).2.1 ((φI μ ν) o).2.2 := Ct_of rfl hg (fun z C => w_Rooms_letter C) (Nat.le_of_ble_eq_true rfl) ho
def L_BT_looked_2 (μ : Mm) (k : Unit → Option (Int32)) : Nat → Int32 → Option (Int32)
  | 0, _ => none
  | n + 1, s1 => (if (μ 53 2) ≤ s1 then k () else (rdI (μ 54) (rlen 53) s1).bind fun v2 => (rdI (μ 43) 6 v2).bind fun v3 => (rdI (μ 55) (rlen 53) s1).bind fun v4 => (if v3 = v4 then L_BT_looked_2 μ k n (s1 + 1) else some s1))
def F_BT_looked (μ : Mm) : Option (Int32) := L_BT_looked_2 μ (fun (_ : Unit) => some (-5)) fu 0
theorem d_BT_looked_0 : decode prog_1_method_34_code 0 = .ok (.iconst 0, 1) := by decide +kernel
theorem d_BT_looked_1 : decode prog_1_method_34_code 1 = .ok (.istore_n 1, 1) := by decide +kernel
theorem d_BT_looked_2 : decode prog_1_method_34_code 2 = .ok (.iload_n 1, 1) := by decide +kernel
theorem d_BT_looked_3 : decode prog_1_method_34_code 3 = .ok (.aload_n 0, 1) := by decide +kernel
theorem d_BT_looked_16 : decode prog_1_method_34_code 16 = .ok (.aload_n 0, 1) := by decide +kernel
theorem d_BT_looked_23 : decode prog_1_method_34_code 23 = .ok (.aload_n 0, 1) := by decide +kernel
theorem d_BT_looked_33 : decode prog_1_method_34_code 33 = .ok (.iload_n 1, 1) := by decide +kernel
theorem d_BT_looked_36 : decode prog_1_method_34_code 36 = .ok (.aload_n 0, 1) := by decide +kernel
theorem d_BT_looked_46 : decode prog_1_method_34_code 46 = .ok (.iload_n 1, 1) := by decide +kernel
theorem d_BT_looked_53 : decode prog_1_method_34_code 53 = .ok (.iinc 1 1, 3) := by decide +kernel
theorem d_BT_looked_56 : decode prog_1_method_34_code 56 = .ok (.goto (-54), 3) := by decide +kernel
theorem d_BT_looked_51 : decode prog_1_method_34_code 51 = .ok (.iload_n 1, 1) := by decide +kernel
theorem d_BT_looked_52 : decode prog_1_method_34_code 52 = .ok (.ireturn, 1) := by decide +kernel
theorem d_BT_looked_48 : decode prog_1_method_34_code 48 = .ok (.if_icmp .eq 5, 3) := by decide +kernel
theorem d_BT_looked_43 : decode prog_1_method_34_code 43 = .ok (.getfield 267, 3) := by decide +kernel
theorem d_BT_looked_40 : decode prog_1_method_34_code 40 = .ok (.getfield 273, 3) := by decide +kernel
theorem d_BT_looked_37 : decode prog_1_method_34_code 37 = .ok (.getfield 52, 3) := by decide +kernel
theorem d_BT_looked_30 : decode prog_1_method_34_code 30 = .ok (.getfield 270, 3) := by decide +kernel
theorem d_BT_looked_27 : decode prog_1_method_34_code 27 = .ok (.getfield 273, 3) := by decide +kernel
theorem d_BT_looked_24 : decode prog_1_method_34_code 24 = .ok (.getfield 52, 3) := by decide +kernel
theorem d_BT_looked_20 : decode prog_1_method_34_code 20 = .ok (.getfield 105, 3) := by decide +kernel
theorem d_BT_looked_17 : decode prog_1_method_34_code 17 = .ok (.getfield 52, 3) := by decide +kernel
theorem d_BT_looked_13 : decode prog_1_method_34_code 13 = .ok (.if_icmp .ge 46, 3) := by decide +kernel
theorem d_BT_looked_10 : decode prog_1_method_34_code 10 = .ok (.getfield 266, 3) := by decide +kernel
theorem d_BT_looked_7 : decode prog_1_method_34_code 7 = .ok (.getfield 273, 3) := by decide +kernel
theorem d_BT_looked_4 : decode prog_1_method_34_code 4 = .ok (.getfield 52, 3) := by decide +kernel
theorem d_BT_looked_34 : decode prog_1_method_34_code 34 = .ok (.iaload, 1) := by decide +kernel
theorem d_BT_looked_35 : decode prog_1_method_34_code 35 = .ok (.iaload, 1) := by decide +kernel
theorem d_BT_looked_47 : decode prog_1_method_34_code 47 = .ok (.iaload, 1) := by decide +kernel
set_option maxRecDepth 10000 in
set_option maxHeartbeats 4000000 in
theorem W_BT_looked_2 {q : QT} {z : ZT} {μ : Mm} {ν : Ml} {k : Unit → Option (Int32)} (C : Ctx sdX q z prog_1_method_34_code "BesideTom" 2 0 (some (FieldType.int))) (hk : R sdX q z 2 (φI μ ν) (k ()) μ ν 59 [] []) : ∀ (n : Nat) (s1 : Int32), R sdX q z 2 (φI μ ν) (L_BT_looked_2 μ k n s1) μ ν 2 [(1, .int s1), (0, .ref (q.2.2.1 0))] [] := by
  intro n
  induction n with
  | zero =>
    intros
    exact R_none
  | succ n ih =>
    intro s1
    rw [L_BT_looked_2]
    refine R_iload_n C 0 d_BT_looked_2 rfl rfl ?_
    refine R_aload_n C 1 d_BT_looked_3 rfl rfl ?_
    refine gf_BT_now C fl_BT_52 d_BT_looked_4 ?_
    refine gf_Seat_book C s40 fl_BT_273 d_BT_looked_7 ?_
    refine gf_Rows_many C (sr_13 s40) fl_BT_266 d_BT_looked_10 ?_
    refine R_icmp_ge C d_BT_looked_13 (tgt := 59) (by decide) ?_ ?_
    · skip
      exact R_sub [] rfl hk
    · skip
      refine R_aload_n C 1 d_BT_looked_16 rfl rfl ?_
      refine gf_BT_now C fl_BT_52 d_BT_looked_17 ?_
      refine gf_Seat_desk C s40 fl_BT_105 d_BT_looked_20 ?_
      refine R_aload_n C 1 d_BT_looked_23 rfl rfl ?_
      refine gf_BT_now C fl_BT_52 d_BT_looked_24 ?_
      refine gf_Seat_book C s40 fl_BT_273 d_BT_looked_27 ?_
      refine gf_Rows_first C (sr_13 s40) fl_BT_270 d_BT_looked_30 ?_
      refine R_iload_n C 0 d_BT_looked_33 rfl rfl ?_
      refine R_iald C (re_1 (sr_13 s40)) (rc_1 (sr_13 s40) q _ _) d_BT_looked_34 (fun v2 => ?_)
      refine R_iald C (se_3 s40) (sc_3 s40 q _ _) d_BT_looked_35 (fun v3 => ?_)
      refine R_aload_n C 1 d_BT_looked_36 rfl rfl ?_
      refine gf_BT_now C fl_BT_52 d_BT_looked_37 ?_
      refine gf_Seat_book C s40 fl_BT_273 d_BT_looked_40 ?_
      refine gf_Rows_second C (sr_13 s40) fl_BT_267 d_BT_looked_43 ?_
      refine R_iload_n C 0 d_BT_looked_46 rfl rfl ?_
      refine R_iald C (re_2 (sr_13 s40)) (rc_2 (sr_13 s40) q _ _) d_BT_looked_47 (fun v4 => ?_)
      refine R_icmp_eq C d_BT_looked_48 (tgt := 53) (by decide) ?_ ?_
      · skip
        refine R_iinc C 0 d_BT_looked_53 rfl (iinc_v _ (v := 1) (by decide +kernel)) (lv' := [(1, .int (s1 + 1)), (0, .ref (q.2.2.1 0))]) (by decide) rfl ?_
        refine R_goto C d_BT_looked_56 (tgt := 2) (by decide) ?_
        exact R_sub [0, 1] rfl (ih (s1 + 1))
      · skip
        refine R_iload_n C 0 d_BT_looked_51 rfl rfl ?_
        exact R_iret C rfl d_BT_looked_52
theorem d_BT_looked_59 : decode prog_1_method_34_code 59 = .ok (.bipush (-5), 2) := by decide +kernel
theorem d_BT_looked_61 : decode prog_1_method_34_code 61 = .ok (.ireturn, 1) := by decide +kernel
set_option maxRecDepth 10000 in
set_option maxHeartbeats 4000000 in
theorem w_BT_looked {q : QT} {z : ZT} {μ : Mm} {ν : Ml} (C : Ctx sdX q z prog_1_method_34_code "BesideTom" 2 0 (some (FieldType.int))) : R sdX q z 2 (φI μ ν) (F_BT_looked μ) μ ν 0 [(0, .ref (q.2.2.1 0))] [] := by
  unfold F_BT_looked
  refine R_iconst C d_BT_looked_0 (v := 0) (by decide +kernel) ?_
  refine R_istore_n C (lv' := [(1, .int 0), (0, .ref (q.2.2.1 0))]) d_BT_looked_1 rfl (by decide) rfl ?_
  refine R_sub [0, 1] rfl ?_
  refine W_BT_looked_2 C ?_ fu _
  skip
  refine R_bipush C d_BT_looked_59 (v := (-5)) (by decide +kernel) ?_
  exact R_iret C rfl d_BT_looked_61
theorem c_BT_looked {q : QT} (hg : GOk sdX q) {μ : Mm} {ν : Ml} {o : Int32} (ho : F_BT_looked μ = some o) : Ct sdX q y_BT_looked prog_1_method_34_code 2 (some (FieldType.int)) 0 [.ref (q.2.2.1 0)] μ ν ((φI μ ν) o).1 ((φI μ ν) o).2.1 ((φI μ ν) o).2.2 := Ct_of rfl hg (fun z C => w_BT_looked C) (Nat.le_of_ble_eq_true rfl) ho
def F_Seat_setAway (this : Nat) (a1 : Int32) (a2 : Int32) (μ : Mm) : Option (Mm) := jn (α := Int32) (fun K3 => (if a2 = 0 then K3 ((μ this 7) &&& ((1 <<< (a1 &&& 31)) ^^^ (-1))) else K3 ((μ this 7) ||| (1 <<< (a1 &&& 31))))) (fun (j1 : Int32) => lt_ (up2 μ this 7 j1) fun μ2 => some μ2)
theorem d_Seat_setAway_0 : decode prog_7_method_7_code 0 = .ok (.aload_n 0, 1) := by decide +kernel
theorem d_Seat_setAway_1 : decode prog_7_method_7_code 1 = .ok (.iload_n 2, 1) := by decide +kernel
theorem d_Seat_setAway_16 : decode prog_7_method_7_code 16 = .ok (.aload_n 0, 1) := by decide +kernel
theorem d_Seat_setAway_20 : decode prog_7_method_7_code 20 = .ok (.iconst 1, 1) := by decide +kernel
theorem d_Seat_setAway_21 : decode prog_7_method_7_code 21 = .ok (.iload_n 1, 1) := by decide +kernel
theorem d_Seat_setAway_22 : decode prog_7_method_7_code 22 = .ok (.ishl, 1) := by decide +kernel
theorem d_Seat_setAway_23 : decode prog_7_method_7_code 23 = .ok (.iconst (-1), 1) := by decide +kernel
theorem d_Seat_setAway_24 : decode prog_7_method_7_code 24 = .ok (.ixor, 1) := by decide +kernel
theorem d_Seat_setAway_25 : decode prog_7_method_7_code 25 = .ok (.iand, 1) := by decide +kernel
theorem d_Seat_setAway_17 : decode prog_7_method_7_code 17 = .ok (.getfield 68, 3) := by decide +kernel
theorem d_Seat_setAway_5 : decode prog_7_method_7_code 5 = .ok (.aload_n 0, 1) := by decide +kernel
theorem d_Seat_setAway_9 : decode prog_7_method_7_code 9 = .ok (.iconst 1, 1) := by decide +kernel
theorem d_Seat_setAway_10 : decode prog_7_method_7_code 10 = .ok (.iload_n 1, 1) := by decide +kernel
theorem d_Seat_setAway_11 : decode prog_7_method_7_code 11 = .ok (.ishl, 1) := by decide +kernel
theorem d_Seat_setAway_12 : decode prog_7_method_7_code 12 = .ok (.ior, 1) := by decide +kernel
theorem d_Seat_setAway_13 : decode prog_7_method_7_code 13 = .ok (.goto 13, 3) := by decide +kernel
theorem d_Seat_setAway_6 : decode prog_7_method_7_code 6 = .ok (.getfield 68, 3) := by decide +kernel
theorem d_Seat_setAway_2 : decode prog_7_method_7_code 2 = .ok (.ifCond .eq 14, 3) := by decide +kernel
theorem d_Seat_setAway_29 : decode prog_7_method_7_code 29 = .ok (.return_, 1) := by decide +kernel
theorem d_Seat_setAway_26 : decode prog_7_method_7_code 26 = .ok (.putfield 68, 3) := by decide +kernel
set_option maxRecDepth 10000 in
set_option maxHeartbeats 4000000 in
theorem w_Seat_setAway {q : QT} {z : ZT} {this : Nat} {a1 : Int32} {a2 : Int32} {μ : Mm} {ν : Ml} (C : Ctx sdX q z prog_7_method_7_code "BesideTom$Seating" 3 0 none) (h_this : this ∈ seats) : R sdX q z 3 (φVm ν) (F_Seat_setAway this a1 a2 μ) μ ν 0 [(0, .ref (q.2.2.1 this)), (1, .int a1), (2, .int a2)] [] := by
  unfold F_Seat_setAway
  refine R_aload_n C 0 d_Seat_setAway_0 rfl rfl ?_
  refine R_iload_n C 2 d_Seat_setAway_1 rfl rfl ?_
  refine R_jn (fun K3 => ∀ (j1 : Int32), R sdX q z 3 (φVm ν) (K3 j1) μ ν 26 [] [.int j1, .ref (q.2.2.1 this)]) ?_ (fun K3 hK3 => ?_)
  · intro j1
    refine pf_Seat_away C h_this fl_Seat_68 d_Seat_setAway_26 (fun μ2 => ?_)
    exact R_vret C rfl d_Seat_setAway_29
  · skip
    refine R_if_eq C d_Seat_setAway_2 (tgt := 16) (by decide) ?_ ?_
    · skip
      refine R_aload_n C 0 d_Seat_setAway_16 rfl rfl ?_
      refine gf_Seat_away C h_this fl_Seat_68 d_Seat_setAway_17 ?_
      refine R_iconst C d_Seat_setAway_20 (v := 1) (by decide +kernel) ?_
      refine R_iload_n C 1 d_Seat_setAway_21 rfl rfl ?_
      refine R_ishl C d_Seat_setAway_22 ?_
      refine R_iconst C d_Seat_setAway_23 (v := (-1)) (by decide +kernel) ?_
      refine R_ixor C d_Seat_setAway_24 ?_
      refine R_iand C d_Seat_setAway_25 ?_
      exact R_sub [] rfl (hK3 ((μ this 7) &&& ((1 <<< (a1 &&& 31)) ^^^ (-1))))
    · skip
      refine R_aload_n C 0 d_Seat_setAway_5 rfl rfl ?_
      refine gf_Seat_away C h_this fl_Seat_68 d_Seat_setAway_6 ?_
      refine R_iconst C d_Seat_setAway_9 (v := 1) (by decide +kernel) ?_
      refine R_iload_n C 1 d_Seat_setAway_10 rfl rfl ?_
      refine R_ishl C d_Seat_setAway_11 ?_
      refine R_ior C d_Seat_setAway_12 ?_
      refine R_goto C d_Seat_setAway_13 (tgt := 26) (by decide) ?_
      exact R_sub [] rfl (hK3 ((μ this 7) ||| (1 <<< (a1 &&& 31))))
theorem c_Seat_setAway {q : QT} (hg : GOk sdX q) {this : Nat} {a1 : Int32} {a2 : Int32} {μ : Mm} {ν : Ml} (h_this : this ∈ seats) {o : Mm} (ho : F_Seat_setAway this a1 a2 μ = some o) : Ct sdX q y_Seat_setAway prog_7_method_7_code 3 none 0 [.ref (q.2.2.1 this), .int a1, .int a2] μ ν ((φVm ν) o).1 ((φVm ν) o).2.1 ((φVm ν) o).2.2 := Ct_of rfl hg (fun z C => w_Seat_setAway C h_this) (Nat.le_of_ble_eq_true rfl) ho
def F_Rooms_signs (μ : Mm) : Option (Int32) := (rdI (μ 10) 7 (μ 1 2)).bind fun v1 => some v1
theorem d_Rooms_signs_0 : decode prog_5_method_2_code 0 = .ok (.aload_n 0, 1) := by decide +kernel
theorem d_Rooms_signs_4 : decode prog_5_method_2_code 4 = .ok (.aload_n 0, 1) := by decide +kernel
theorem d_Rooms_signs_9 : decode prog_5_method_2_code 9 = .ok (.ireturn, 1) := by decide +kernel
theorem d_Rooms_signs_5 : decode prog_5_method_2_code 5 = .ok (.getfield 20, 3) := by decide +kernel
theorem d_Rooms_signs_1 : decode prog_5_method_2_code 1 = .ok (.getfield 16, 3) := by decide +kernel
theorem d_Rooms_signs_8 : decode prog_5_method_2_code 8 = .ok (.iaload, 1) := by decide +kernel
set_option maxRecDepth 10000 in
set_option maxHeartbeats 4000000 in
theorem w_Rooms_signs {q : QT} {z : ZT} {μ : Mm} {ν : Ml} (C : Ctx sdX q z prog_5_method_2_code "BesideTom$Rooms" 1 0 (some (FieldType.int))) : R sdX q z 1 (φI μ ν) (F_Rooms_signs μ) μ ν 0 [(0, .ref (q.2.2.1 1))] [] := by
  unfold F_Rooms_signs
  refine R_aload_n C 0 d_Rooms_signs_0 rfl rfl ?_
  refine gf_Rooms_lengths C fl_Rooms_16 d_Rooms_signs_1 ?_
  refine R_aload_n C 0 d_Rooms_signs_4 rfl rfl ?_
  refine gf_Rooms_many C fl_Rooms_20 d_Rooms_signs_5 ?_
  refine R_iald C xm_10 (xc_10 q _ _) d_Rooms_signs_8 (fun v1 => ?_)
  exact R_iret C rfl d_Rooms_signs_9
theorem c_Rooms_signs {q : QT} (hg : GOk sdX q) {μ : Mm} {ν : Ml} {o : Int32} (ho : F_Rooms_signs μ = some o) : Ct sdX q y_Rooms_signs prog_5_method_2_code 1 (some (FieldType.int)) 0 [.ref (q.2.2.1 1)] μ ν ((φI μ ν) o).1 ((φI μ ν) o).2.1 ((φI μ ν) o).2.2 := Ct_of rfl hg (fun z C => w_Rooms_signs C) (Nat.le_of_ble_eq_true rfl) ho
def F_Rooms_steps (μ : Mm) : Option (Mm) := lt_ (up2 μ 1 4 ((μ 1 4) + 1)) fun μ1 => (rdI (μ1 10) 7 (μ1 1 3)).bind fun v2 => jn (α := Int32) (fun K8 => jn (α := Unit) (fun K5 => (if v2 ≤ (μ1 1 4) then K5 () else (if 100 ≤ (μ1 1 4) then K5 () else (rdR 3 7 (μ1 1 3)).bind fun c3 => (rdI (μ1 c3) 100 (μ1 1 4)).bind fun v4 => K8 v4))) (fun (_ : Unit) => K8 (-1))) (fun (j6 : Int32) => lt_ (up2 μ1 1 5 j6) fun μ7 => some μ7)
theorem d_Rooms_steps_0 : decode prog_5_method_9_code 0 = .ok (.aload_n 0, 1) := by decide +kernel
theorem d_Rooms_steps_1 : decode prog_5_method_9_code 1 = .ok (.dup, 1) := by decide +kernel
theorem d_Rooms_steps_5 : decode prog_5_method_9_code 5 = .ok (.iconst 1, 1) := by decide +kernel
theorem d_Rooms_steps_6 : decode prog_5_method_9_code 6 = .ok (.iadd, 1) := by decide +kernel
theorem d_Rooms_steps_10 : decode prog_5_method_9_code 10 = .ok (.aload_n 0, 1) := by decide +kernel
theorem d_Rooms_steps_11 : decode prog_5_method_9_code 11 = .ok (.aload_n 0, 1) := by decide +kernel
theorem d_Rooms_steps_15 : decode prog_5_method_9_code 15 = .ok (.aload_n 0, 1) := by decide +kernel
theorem d_Rooms_steps_19 : decode prog_5_method_9_code 19 = .ok (.aload_n 0, 1) := by decide +kernel
theorem d_Rooms_steps_27 : decode prog_5_method_9_code 27 = .ok (.aload_n 0, 1) := by decide +kernel
theorem d_Rooms_steps_31 : decode prog_5_method_9_code 31 = .ok (.bipush 100, 2) := by decide +kernel
theorem d_Rooms_steps_36 : decode prog_5_method_9_code 36 = .ok (.aload_n 0, 1) := by decide +kernel
theorem d_Rooms_steps_40 : decode prog_5_method_9_code 40 = .ok (.aload_n 0, 1) := by decide +kernel
theorem d_Rooms_steps_45 : decode prog_5_method_9_code 45 = .ok (.aload_n 0, 1) := by decide +kernel
theorem d_Rooms_steps_50 : decode prog_5_method_9_code 50 = .ok (.goto 4, 3) := by decide +kernel
theorem d_Rooms_steps_46 : decode prog_5_method_9_code 46 = .ok (.getfield 67, 3) := by decide +kernel
theorem d_Rooms_steps_41 : decode prog_5_method_9_code 41 = .ok (.getfield 43, 3) := by decide +kernel
theorem d_Rooms_steps_37 : decode prog_5_method_9_code 37 = .ok (.getfield 13, 3) := by decide +kernel
theorem d_Rooms_steps_33 : decode prog_5_method_9_code 33 = .ok (.if_icmp .ge 20, 3) := by decide +kernel
theorem d_Rooms_steps_28 : decode prog_5_method_9_code 28 = .ok (.getfield 67, 3) := by decide +kernel
theorem d_Rooms_steps_24 : decode prog_5_method_9_code 24 = .ok (.if_icmp .ge 29, 3) := by decide +kernel
theorem d_Rooms_steps_53 : decode prog_5_method_9_code 53 = .ok (.iconst (-1), 1) := by decide +kernel
theorem d_Rooms_steps_57 : decode prog_5_method_9_code 57 = .ok (.return_, 1) := by decide +kernel
theorem d_Rooms_steps_20 : decode prog_5_method_9_code 20 = .ok (.getfield 43, 3) := by decide +kernel
theorem d_Rooms_steps_16 : decode prog_5_method_9_code 16 = .ok (.getfield 16, 3) := by decide +kernel
theorem d_Rooms_steps_12 : decode prog_5_method_9_code 12 = .ok (.getfield 67, 3) := by decide +kernel
theorem d_Rooms_steps_2 : decode prog_5_method_9_code 2 = .ok (.getfield 67, 3) := by decide +kernel
theorem d_Rooms_steps_7 : decode prog_5_method_9_code 7 = .ok (.putfield 67, 3) := by decide +kernel
theorem d_Rooms_steps_23 : decode prog_5_method_9_code 23 = .ok (.iaload, 1) := by decide +kernel
theorem d_Rooms_steps_54 : decode prog_5_method_9_code 54 = .ok (.putfield 46, 3) := by decide +kernel
theorem d_Rooms_steps_44 : decode prog_5_method_9_code 44 = .ok (.aaload, 1) := by decide +kernel
theorem d_Rooms_steps_49 : decode prog_5_method_9_code 49 = .ok (.baload, 1) := by decide +kernel
set_option maxRecDepth 10000 in
set_option maxHeartbeats 4000000 in
theorem w_Rooms_steps {q : QT} {z : ZT} {μ : Mm} {ν : Ml} (C : Ctx sdX q z prog_5_method_9_code "BesideTom$Rooms" 1 0 none) : R sdX q z 1 (φVm ν) (F_Rooms_steps μ) μ ν 0 [(0, .ref (q.2.2.1 1))] [] := by
  unfold F_Rooms_steps
  refine R_aload_n C 0 d_Rooms_steps_0 rfl rfl ?_
  refine R_dup C d_Rooms_steps_1 rfl ?_
  refine gf_Rooms_at C fl_Rooms_67 d_Rooms_steps_2 ?_
  refine R_iconst C d_Rooms_steps_5 (v := 1) (by decide +kernel) ?_
  refine R_iadd C d_Rooms_steps_6 ?_
  refine pf_Rooms_at C fl_Rooms_67 d_Rooms_steps_7 (fun μ1 => ?_)
  refine R_aload_n C 0 d_Rooms_steps_10 rfl rfl ?_
  refine R_aload_n C 0 d_Rooms_steps_11 rfl rfl ?_
  refine gf_Rooms_at C fl_Rooms_67 d_Rooms_steps_12 ?_
  refine R_aload_n C 0 d_Rooms_steps_15 rfl rfl ?_
  refine gf_Rooms_lengths C fl_Rooms_16 d_Rooms_steps_16 ?_
  refine R_aload_n C 0 d_Rooms_steps_19 rfl rfl ?_
  refine gf_Rooms_row C fl_Rooms_43 d_Rooms_steps_20 ?_
  refine R_iald C xm_10 (xc_10 q _ _) d_Rooms_steps_23 (fun v2 => ?_)
  refine R_jn (fun K8 => ∀ (j6 : Int32), R sdX q z 1 (φVm ν) (K8 j6) μ1 ν 54 [] [.int j6, .ref (q.2.2.1 1)]) ?_ (fun K8 hK8 => ?_)
  · intro j6
    refine pf_Rooms_sign C fl_Rooms_46 d_Rooms_steps_54 (fun μ7 => ?_)
    exact R_vret C rfl d_Rooms_steps_57
  · skip
    refine R_jn (fun K5 => R sdX q z 1 (φVm ν) (K5 ()) μ1 ν 53 [] [.ref (q.2.2.1 1)]) ?_ (fun K5 hK5 => ?_)
    · skip
      refine R_iconst C d_Rooms_steps_53 (v := (-1)) (by decide +kernel) ?_
      exact R_sub [] rfl (hK8 (-1))
    · skip
      refine R_icmp_ge C d_Rooms_steps_24 (tgt := 53) (by decide) ?_ ?_
      · skip
        exact R_sub [] rfl (hK5)
      · skip
        refine R_aload_n C 0 d_Rooms_steps_27 rfl rfl ?_
        refine gf_Rooms_at C fl_Rooms_67 d_Rooms_steps_28 ?_
        refine R_bipush C d_Rooms_steps_31 (v := 100) (by decide +kernel) ?_
        refine R_icmp_ge C d_Rooms_steps_33 (tgt := 53) (by decide) ?_ ?_
        · skip
          exact R_sub [] rfl (hK5)
        · skip
          refine R_aload_n C 0 d_Rooms_steps_36 rfl rfl ?_
          refine gf_Rooms_texts C fl_Rooms_13 d_Rooms_steps_37 ?_
          refine R_aload_n C 0 d_Rooms_steps_40 rfl rfl ?_
          refine gf_Rooms_row C fl_Rooms_43 d_Rooms_steps_41 ?_
          refine R_aald C (ti := 4) (ty := (.array .byte)) xm_2 (xc_2 q _ _) rfl rfl d_Rooms_steps_44 (fun c3 hc3 => ?_)
          refine R_aload_n C 0 d_Rooms_steps_45 rfl rfl ?_
          refine gf_Rooms_at C fl_Rooms_67 d_Rooms_steps_46 ?_
          refine R_bald C (te_0 (tx_in hc3)) (tc_0 (tx_in hc3) q _ _) d_Rooms_steps_49 (fun v4 => ?_)
          refine R_goto C d_Rooms_steps_50 (tgt := 54) (by decide) ?_
          exact R_sub [] rfl (hK8 v4)
theorem c_Rooms_steps {q : QT} (hg : GOk sdX q) {μ : Mm} {ν : Ml} {o : Mm} (ho : F_Rooms_steps μ = some o) : Ct sdX q y_Rooms_steps prog_5_method_9_code 1 none 0 [.ref (q.2.2.1 1)] μ ν ((φVm ν) o).1 ((φVm ν) o).2.1 ((φVm ν) o).2.2 := Ct_of rfl hg (fun z C => w_Rooms_steps C) (Nat.le_of_ble_eq_true rfl) ho
def F_Seat_swaps (this : Nat) (a1 : Int32) (a2 : Int32) (μ : Mm) : Option (Mm) := (rdI (μ (this + 3)) 6 a1).bind fun v1 => (rdI (μ (this + 3)) 6 a2).bind fun v2 => (wrI μ (this + 3) 6 a1 v2).bind fun μ3 => (wrI μ3 (this + 3) 6 a2 v1).bind fun μ4 => some μ4
theorem d_Seat_swaps_0 : decode prog_7_method_11_code 0 = .ok (.aload_n 0, 1) := by decide +kernel
theorem d_Seat_swaps_4 : decode prog_7_method_11_code 4 = .ok (.iload_n 1, 1) := by decide +kernel
theorem d_Seat_swaps_6 : decode prog_7_method_11_code 6 = .ok (.istore_n 3, 1) := by decide +kernel
theorem d_Seat_swaps_7 : decode prog_7_method_11_code 7 = .ok (.aload_n 0, 1) := by decide +kernel
theorem d_Seat_swaps_11 : decode prog_7_method_11_code 11 = .ok (.iload_n 1, 1) := by decide +kernel
theorem d_Seat_swaps_12 : decode prog_7_method_11_code 12 = .ok (.aload_n 0, 1) := by decide +kernel
theorem d_Seat_swaps_16 : decode prog_7_method_11_code 16 = .ok (.iload_n 2, 1) := by decide +kernel
theorem d_Seat_swaps_19 : decode prog_7_method_11_code 19 = .ok (.aload_n 0, 1) := by decide +kernel
theorem d_Seat_swaps_23 : decode prog_7_method_11_code 23 = .ok (.iload_n 2, 1) := by decide +kernel
theorem d_Seat_swaps_24 : decode prog_7_method_11_code 24 = .ok (.iload_n 3, 1) := by decide +kernel
theorem d_Seat_swaps_26 : decode prog_7_method_11_code 26 = .ok (.return_, 1) := by decide +kernel
theorem d_Seat_swaps_25 : decode prog_7_method_11_code 25 = .ok (.iastore, 1) := by decide +kernel
theorem d_Seat_swaps_20 : decode prog_7_method_11_code 20 = .ok (.getfield 28, 3) := by decide +kernel
theorem d_Seat_swaps_18 : decode prog_7_method_11_code 18 = .ok (.iastore, 1) := by decide +kernel
theorem d_Seat_swaps_13 : decode prog_7_method_11_code 13 = .ok (.getfield 28, 3) := by decide +kernel
theorem d_Seat_swaps_8 : decode prog_7_method_11_code 8 = .ok (.getfield 28, 3) := by decide +kernel
theorem d_Seat_swaps_1 : decode prog_7_method_11_code 1 = .ok (.getfield 28, 3) := by decide +kernel
theorem d_Seat_swaps_5 : decode prog_7_method_11_code 5 = .ok (.iaload, 1) := by decide +kernel
theorem d_Seat_swaps_17 : decode prog_7_method_11_code 17 = .ok (.iaload, 1) := by decide +kernel
set_option maxRecDepth 10000 in
set_option maxHeartbeats 4000000 in
theorem w_Seat_swaps {q : QT} {z : ZT} {this : Nat} {a1 : Int32} {a2 : Int32} {μ : Mm} {ν : Ml} (C : Ctx sdX q z prog_7_method_11_code "BesideTom$Seating" 4 0 none) (h_this : this ∈ seats) : R sdX q z 4 (φVm ν) (F_Seat_swaps this a1 a2 μ) μ ν 0 [(0, .ref (q.2.2.1 this)), (1, .int a1), (2, .int a2)] [] := by
  unfold F_Seat_swaps
  refine R_aload_n C 0 d_Seat_swaps_0 rfl rfl ?_
  refine gf_Seat_desk C h_this fl_Seat_28 d_Seat_swaps_1 ?_
  refine R_iload_n C 1 d_Seat_swaps_4 rfl rfl ?_
  refine R_iald C (se_3 h_this) (sc_3 h_this q _ _) d_Seat_swaps_5 (fun v1 => ?_)
  refine R_istore_n C (lv' := [(3, .int v1), (0, .ref (q.2.2.1 this)), (1, .int a1), (2, .int a2)]) d_Seat_swaps_6 rfl (by decide) rfl ?_
  refine R_aload_n C 1 d_Seat_swaps_7 rfl rfl ?_
  refine gf_Seat_desk C h_this fl_Seat_28 d_Seat_swaps_8 ?_
  refine R_iload_n C 2 d_Seat_swaps_11 rfl rfl ?_
  refine R_aload_n C 1 d_Seat_swaps_12 rfl rfl ?_
  refine gf_Seat_desk C h_this fl_Seat_28 d_Seat_swaps_13 ?_
  refine R_iload_n C 3 d_Seat_swaps_16 rfl rfl ?_
  refine R_iald C (se_3 h_this) (sc_3 h_this q _ _) d_Seat_swaps_17 (fun v2 => ?_)
  refine R_iast C (se_3 h_this) (fun h => sc_3 h_this q h _) d_Seat_swaps_18 (fun μ3 => ?_)
  refine R_aload_n C 1 d_Seat_swaps_19 rfl rfl ?_
  refine gf_Seat_desk C h_this fl_Seat_28 d_Seat_swaps_20 ?_
  refine R_iload_n C 3 d_Seat_swaps_23 rfl rfl ?_
  refine R_iload_n C 0 d_Seat_swaps_24 rfl rfl ?_
  refine R_iast C (se_3 h_this) (fun h => sc_3 h_this q h _) d_Seat_swaps_25 (fun μ4 => ?_)
  exact R_vret C rfl d_Seat_swaps_26
theorem c_Seat_swaps {q : QT} (hg : GOk sdX q) {this : Nat} {a1 : Int32} {a2 : Int32} {μ : Mm} {ν : Ml} (h_this : this ∈ seats) {o : Mm} (ho : F_Seat_swaps this a1 a2 μ = some o) : Ct sdX q y_Seat_swaps prog_7_method_11_code 4 none 0 [.ref (q.2.2.1 this), .int a1, .int a2] μ ν ((φVm ν) o).1 ((φVm ν) o).2.1 ((φVm ν) o).2.2 := Ct_of rfl hg (fun z C => w_Seat_swaps C h_this) (Nat.le_of_ble_eq_true rfl) ho
def F_Rooms_takes (a1 : Int32) (μ : Mm) : Option (Int32 × Mm) := (rdI (μ 10) 7 (μ 1 2)).bind fun v1 => (if v1 < 100 then (rdR 3 7 (μ 1 2)).bind fun c2 => (rdI (μ 10) 7 (μ 1 2)).bind fun v3 => (wrI μ c2 100 v3 (vp_nar .byte (Int8.toInt32 (Int32.toInt8 a1)))).bind fun μ4 => (rdI (μ4 10) 7 (μ4 1 2)).bind fun v5 => (wrI μ4 10 7 (μ4 1 2) (v5 + 1)).bind fun μ6 => some ((v5 + 1), μ6) else some ((-4), μ))
theorem d_Rooms_takes_0 : decode prog_5_method_3_code 0 = .ok (.aload_n 0, 1) := by decide +kernel
theorem d_Rooms_takes_4 : decode prog_5_method_3_code 4 = .ok (.aload_n 0, 1) := by decide +kernel
theorem d_Rooms_takes_9 : decode prog_5_method_3_code 9 = .ok (.bipush 100, 2) := by decide +kernel
theorem d_Rooms_takes_17 : decode prog_5_method_3_code 17 = .ok (.aload_n 0, 1) := by decide +kernel
theorem d_Rooms_takes_21 : decode prog_5_method_3_code 21 = .ok (.aload_n 0, 1) := by decide +kernel
theorem d_Rooms_takes_26 : decode prog_5_method_3_code 26 = .ok (.aload_n 0, 1) := by decide +kernel
theorem d_Rooms_takes_30 : decode prog_5_method_3_code 30 = .ok (.aload_n 0, 1) := by decide +kernel
theorem d_Rooms_takes_35 : decode prog_5_method_3_code 35 = .ok (.iload_n 1, 1) := by decide +kernel
theorem d_Rooms_takes_36 : decode prog_5_method_3_code 36 = .ok (.i2b, 1) := by decide +kernel
theorem d_Rooms_takes_38 : decode prog_5_method_3_code 38 = .ok (.aload_n 0, 1) := by decide +kernel
theorem d_Rooms_takes_42 : decode prog_5_method_3_code 42 = .ok (.aload_n 0, 1) := by decide +kernel
theorem d_Rooms_takes_46 : decode prog_5_method_3_code 46 = .ok (.dup2, 1) := by decide +kernel
theorem d_Rooms_takes_48 : decode prog_5_method_3_code 48 = .ok (.iconst 1, 1) := by decide +kernel
theorem d_Rooms_takes_49 : decode prog_5_method_3_code 49 = .ok (.iadd, 1) := by decide +kernel
theorem d_Rooms_takes_50 : decode prog_5_method_3_code 50 = .ok (.dup_x2, 1) := by decide +kernel
theorem d_Rooms_takes_52 : decode prog_5_method_3_code 52 = .ok (.ireturn, 1) := by decide +kernel
theorem d_Rooms_takes_51 : decode prog_5_method_3_code 51 = .ok (.iastore, 1) := by decide +kernel
theorem d_Rooms_takes_43 : decode prog_5_method_3_code 43 = .ok (.getfield 20, 3) := by decide +kernel
theorem d_Rooms_takes_39 : decode prog_5_method_3_code 39 = .ok (.getfield 16, 3) := by decide +kernel
theorem d_Rooms_takes_37 : decode prog_5_method_3_code 37 = .ok (.bastore, 1) := by decide +kernel
theorem d_Rooms_takes_31 : decode prog_5_method_3_code 31 = .ok (.getfield 20, 3) := by decide +kernel
theorem d_Rooms_takes_27 : decode prog_5_method_3_code 27 = .ok (.getfield 16, 3) := by decide +kernel
theorem d_Rooms_takes_22 : decode prog_5_method_3_code 22 = .ok (.getfield 20, 3) := by decide +kernel
theorem d_Rooms_takes_18 : decode prog_5_method_3_code 18 = .ok (.getfield 13, 3) := by decide +kernel
theorem d_Rooms_takes_14 : decode prog_5_method_3_code 14 = .ok (.bipush (-4), 2) := by decide +kernel
theorem d_Rooms_takes_16 : decode prog_5_method_3_code 16 = .ok (.ireturn, 1) := by decide +kernel
theorem d_Rooms_takes_11 : decode prog_5_method_3_code 11 = .ok (.if_icmp .lt 6, 3) := by decide +kernel
theorem d_Rooms_takes_5 : decode prog_5_method_3_code 5 = .ok (.getfield 20, 3) := by decide +kernel
theorem d_Rooms_takes_1 : decode prog_5_method_3_code 1 = .ok (.getfield 16, 3) := by decide +kernel
theorem d_Rooms_takes_8 : decode prog_5_method_3_code 8 = .ok (.iaload, 1) := by decide +kernel
theorem d_Rooms_takes_25 : decode prog_5_method_3_code 25 = .ok (.aaload, 1) := by decide +kernel
theorem d_Rooms_takes_34 : decode prog_5_method_3_code 34 = .ok (.iaload, 1) := by decide +kernel
theorem d_Rooms_takes_47 : decode prog_5_method_3_code 47 = .ok (.iaload, 1) := by decide +kernel
set_option maxRecDepth 10000 in
set_option maxHeartbeats 4000000 in
theorem w_Rooms_takes {q : QT} {z : ZT} {a1 : Int32} {μ : Mm} {ν : Ml} (C : Ctx sdX q z prog_5_method_3_code "BesideTom$Rooms" 2 0 (some (FieldType.int))) : R sdX q z 2 (φIm ν) (F_Rooms_takes a1 μ) μ ν 0 [(0, .ref (q.2.2.1 1)), (1, .int a1)] [] := by
  unfold F_Rooms_takes
  refine R_aload_n C 0 d_Rooms_takes_0 rfl rfl ?_
  refine gf_Rooms_lengths C fl_Rooms_16 d_Rooms_takes_1 ?_
  refine R_aload_n C 0 d_Rooms_takes_4 rfl rfl ?_
  refine gf_Rooms_many C fl_Rooms_20 d_Rooms_takes_5 ?_
  refine R_iald C xm_10 (xc_10 q _ _) d_Rooms_takes_8 (fun v1 => ?_)
  refine R_bipush C d_Rooms_takes_9 (v := 100) (by decide +kernel) ?_
  refine R_icmp_lt C d_Rooms_takes_11 (tgt := 17) (by decide) ?_ ?_
  · skip
    refine R_aload_n C 0 d_Rooms_takes_17 rfl rfl ?_
    refine gf_Rooms_texts C fl_Rooms_13 d_Rooms_takes_18 ?_
    refine R_aload_n C 0 d_Rooms_takes_21 rfl rfl ?_
    refine gf_Rooms_many C fl_Rooms_20 d_Rooms_takes_22 ?_
    refine R_aald C (ti := 4) (ty := (.array .byte)) xm_2 (xc_2 q _ _) rfl rfl d_Rooms_takes_25 (fun c2 hc2 => ?_)
    refine R_aload_n C 0 d_Rooms_takes_26 rfl rfl ?_
    refine gf_Rooms_lengths C fl_Rooms_16 d_Rooms_takes_27 ?_
    refine R_aload_n C 0 d_Rooms_takes_30 rfl rfl ?_
    refine gf_Rooms_many C fl_Rooms_20 d_Rooms_takes_31 ?_
    refine R_iald C xm_10 (xc_10 q _ _) d_Rooms_takes_34 (fun v3 => ?_)
    refine R_iload_n C 1 d_Rooms_takes_35 rfl rfl ?_
    refine R_i2b C d_Rooms_takes_36 ?_
    refine R_bast C (te_0 (tx_in hc2)) (fun h => tc_0 (tx_in hc2) q h _) d_Rooms_takes_37 (fun μ4 => ?_)
    refine R_aload_n C 0 d_Rooms_takes_38 rfl rfl ?_
    refine gf_Rooms_lengths C fl_Rooms_16 d_Rooms_takes_39 ?_
    refine R_aload_n C 0 d_Rooms_takes_42 rfl rfl ?_
    refine gf_Rooms_many C fl_Rooms_20 d_Rooms_takes_43 ?_
    refine R_dup2 C d_Rooms_takes_46 rfl rfl ?_
    refine R_iald C xm_10 (xc_10 q _ _) d_Rooms_takes_47 (fun v5 => ?_)
    refine R_iconst C d_Rooms_takes_48 (v := 1) (by decide +kernel) ?_
    refine R_iadd C d_Rooms_takes_49 ?_
    refine R_dup_x2 C d_Rooms_takes_50 rfl rfl rfl ?_
    refine R_iast C xm_10 (fun h => xc_10 q h _) d_Rooms_takes_51 (fun μ6 => ?_)
    exact R_iret C rfl d_Rooms_takes_52
  · skip
    refine R_bipush C d_Rooms_takes_14 (v := (-4)) (by decide +kernel) ?_
    exact R_iret C rfl d_Rooms_takes_16
theorem c_Rooms_takes {q : QT} (hg : GOk sdX q) {a1 : Int32} {μ : Mm} {ν : Ml} {o : Int32 × Mm} (ho : F_Rooms_takes a1 μ = some o) : Ct sdX q y_Rooms_takes prog_5_method_3_code 2 (some (FieldType.int)) 0 [.ref (q.2.2.1 1), .int a1] μ ν ((φIm ν) o).1 ((φIm ν) o).2.1 ((φIm ν) o).2.2 := Ct_of rfl hg (fun z C => w_Rooms_takes C) (Nat.le_of_ble_eq_true rfl) ho
def F_Rows_takes (this : Nat) (a1 : Int32) (a2 : Int32) (μ : Mm) : Option (Int32 × Mm) := (if (Int32.ofNat (rlen this)) ≤ (μ this 2) then some ((-4), μ) else (if (μ this 2) < (Int32.ofNat (rlen this)) then (wrI μ (this + 1) (rlen this) (μ this 2) a1).bind fun μ1 => (wrI μ1 (this + 2) (rlen this) (μ1 this 2) a2).bind fun μ2 => lt_ (up2 μ2 this 2 ((μ2 this 2) + 1)) fun μ3 => some (((μ2 this 2) + 1), μ3) else some ((-4), μ)))
theorem d_Rows_takes_0 : decode prog_6_method_2_code 0 = .ok (.aload_n 0, 1) := by decide +kernel
theorem d_Rows_takes_4 : decode prog_6_method_2_code 4 = .ok (.aload_n 0, 1) := by decide +kernel
theorem d_Rows_takes_8 : decode prog_6_method_2_code 8 = .ok (.arraylength, 1) := by decide +kernel
theorem d_Rows_takes_24 : decode prog_6_method_2_code 24 = .ok (.bipush (-4), 2) := by decide +kernel
theorem d_Rows_takes_26 : decode prog_6_method_2_code 26 = .ok (.ireturn, 1) := by decide +kernel
theorem d_Rows_takes_12 : decode prog_6_method_2_code 12 = .ok (.aload_n 0, 1) := by decide +kernel
theorem d_Rows_takes_16 : decode prog_6_method_2_code 16 = .ok (.aload_n 0, 1) := by decide +kernel
theorem d_Rows_takes_20 : decode prog_6_method_2_code 20 = .ok (.arraylength, 1) := by decide +kernel
theorem d_Rows_takes_27 : decode prog_6_method_2_code 27 = .ok (.aload_n 0, 1) := by decide +kernel
theorem d_Rows_takes_31 : decode prog_6_method_2_code 31 = .ok (.aload_n 0, 1) := by decide +kernel
theorem d_Rows_takes_35 : decode prog_6_method_2_code 35 = .ok (.iload_n 1, 1) := by decide +kernel
theorem d_Rows_takes_37 : decode prog_6_method_2_code 37 = .ok (.aload_n 0, 1) := by decide +kernel
theorem d_Rows_takes_41 : decode prog_6_method_2_code 41 = .ok (.aload_n 0, 1) := by decide +kernel
theorem d_Rows_takes_45 : decode prog_6_method_2_code 45 = .ok (.iload_n 2, 1) := by decide +kernel
theorem d_Rows_takes_47 : decode prog_6_method_2_code 47 = .ok (.aload_n 0, 1) := by decide +kernel
theorem d_Rows_takes_48 : decode prog_6_method_2_code 48 = .ok (.dup, 1) := by decide +kernel
theorem d_Rows_takes_52 : decode prog_6_method_2_code 52 = .ok (.iconst 1, 1) := by decide +kernel
theorem d_Rows_takes_53 : decode prog_6_method_2_code 53 = .ok (.iadd, 1) := by decide +kernel
theorem d_Rows_takes_54 : decode prog_6_method_2_code 54 = .ok (.dup_x1, 1) := by decide +kernel
theorem d_Rows_takes_58 : decode prog_6_method_2_code 58 = .ok (.ireturn, 1) := by decide +kernel
theorem d_Rows_takes_49 : decode prog_6_method_2_code 49 = .ok (.getfield 24, 3) := by decide +kernel
theorem d_Rows_takes_46 : decode prog_6_method_2_code 46 = .ok (.iastore, 1) := by decide +kernel
theorem d_Rows_takes_42 : decode prog_6_method_2_code 42 = .ok (.getfield 24, 3) := by decide +kernel
theorem d_Rows_takes_38 : decode prog_6_method_2_code 38 = .ok (.getfield 21, 3) := by decide +kernel
theorem d_Rows_takes_36 : decode prog_6_method_2_code 36 = .ok (.iastore, 1) := by decide +kernel
theorem d_Rows_takes_32 : decode prog_6_method_2_code 32 = .ok (.getfield 24, 3) := by decide +kernel
theorem d_Rows_takes_28 : decode prog_6_method_2_code 28 = .ok (.getfield 15, 3) := by decide +kernel
theorem d_Rows_takes_21 : decode prog_6_method_2_code 21 = .ok (.if_icmp .lt 6, 3) := by decide +kernel
theorem d_Rows_takes_17 : decode prog_6_method_2_code 17 = .ok (.getfield 21, 3) := by decide +kernel
theorem d_Rows_takes_13 : decode prog_6_method_2_code 13 = .ok (.getfield 24, 3) := by decide +kernel
theorem d_Rows_takes_9 : decode prog_6_method_2_code 9 = .ok (.if_icmp .ge 15, 3) := by decide +kernel
theorem d_Rows_takes_5 : decode prog_6_method_2_code 5 = .ok (.getfield 15, 3) := by decide +kernel
theorem d_Rows_takes_1 : decode prog_6_method_2_code 1 = .ok (.getfield 24, 3) := by decide +kernel
theorem d_Rows_takes_55 : decode prog_6_method_2_code 55 = .ok (.putfield 24, 3) := by decide +kernel
set_option maxRecDepth 10000 in
set_option maxHeartbeats 4000000 in
theorem w_Rows_takes {q : QT} {z : ZT} {this : Nat} {a1 : Int32} {a2 : Int32} {μ : Mm} {ν : Ml} (C : Ctx sdX q z prog_6_method_2_code "BesideTom$Rows" 3 0 (some (FieldType.int))) (h_this : this ∈ rowsI) : R sdX q z 3 (φIm ν) (F_Rows_takes this a1 a2 μ) μ ν 0 [(0, .ref (q.2.2.1 this)), (1, .int a1), (2, .int a2)] [] := by
  unfold F_Rows_takes
  refine R_aload_n C 0 d_Rows_takes_0 rfl rfl ?_
  refine gf_Rows_many C h_this fl_Rows_24 d_Rows_takes_1 ?_
  refine R_aload_n C 0 d_Rows_takes_4 rfl rfl ?_
  refine gf_Rows_first C h_this fl_Rows_15 d_Rows_takes_5 ?_
  refine R_alen C (ti := 0) (v := (Int32.ofNat (rlen this))) (re_1 h_this) (rc_1 h_this q _ _) rfl rfl d_Rows_takes_8 ?_
  refine R_icmp_ge C d_Rows_takes_9 (tgt := 24) (by decide) ?_ ?_
  · skip
    refine R_bipush C d_Rows_takes_24 (v := (-4)) (by decide +kernel) ?_
    exact R_iret C rfl d_Rows_takes_26
  · skip
    refine R_aload_n C 0 d_Rows_takes_12 rfl rfl ?_
    refine gf_Rows_many C h_this fl_Rows_24 d_Rows_takes_13 ?_
    refine R_aload_n C 0 d_Rows_takes_16 rfl rfl ?_
    refine gf_Rows_second C h_this fl_Rows_21 d_Rows_takes_17 ?_
    refine R_alen C (ti := 0) (v := (Int32.ofNat (rlen this))) (re_2 h_this) (rc_2 h_this q _ _) rfl rfl d_Rows_takes_20 ?_
    refine R_icmp_lt C d_Rows_takes_21 (tgt := 27) (by decide) ?_ ?_
    · skip
      refine R_aload_n C 0 d_Rows_takes_27 rfl rfl ?_
      refine gf_Rows_first C h_this fl_Rows_15 d_Rows_takes_28 ?_
      refine R_aload_n C 0 d_Rows_takes_31 rfl rfl ?_
      refine gf_Rows_many C h_this fl_Rows_24 d_Rows_takes_32 ?_
      refine R_iload_n C 1 d_Rows_takes_35 rfl rfl ?_
      refine R_iast C (re_1 h_this) (fun h => rc_1 h_this q h _) d_Rows_takes_36 (fun μ1 => ?_)
      refine R_aload_n C 0 d_Rows_takes_37 rfl rfl ?_
      refine gf_Rows_second C h_this fl_Rows_21 d_Rows_takes_38 ?_
      refine R_aload_n C 0 d_Rows_takes_41 rfl rfl ?_
      refine gf_Rows_many C h_this fl_Rows_24 d_Rows_takes_42 ?_
      refine R_iload_n C 2 d_Rows_takes_45 rfl rfl ?_
      refine R_iast C (re_2 h_this) (fun h => rc_2 h_this q h _) d_Rows_takes_46 (fun μ2 => ?_)
      refine R_aload_n C 0 d_Rows_takes_47 rfl rfl ?_
      refine R_dup C d_Rows_takes_48 rfl ?_
      refine gf_Rows_many C h_this fl_Rows_24 d_Rows_takes_49 ?_
      refine R_iconst C d_Rows_takes_52 (v := 1) (by decide +kernel) ?_
      refine R_iadd C d_Rows_takes_53 ?_
      refine R_dup_x1 C d_Rows_takes_54 rfl rfl ?_
      refine pf_Rows_many C h_this fl_Rows_24 d_Rows_takes_55 (fun μ3 => ?_)
      exact R_iret C rfl d_Rows_takes_58
    · skip
      refine R_bipush C d_Rows_takes_24 (v := (-4)) (by decide +kernel) ?_
      exact R_iret C rfl d_Rows_takes_26
theorem c_Rows_takes {q : QT} (hg : GOk sdX q) {this : Nat} {a1 : Int32} {a2 : Int32} {μ : Mm} {ν : Ml} (h_this : this ∈ rowsI) {o : Int32 × Mm} (ho : F_Rows_takes this a1 a2 μ = some o) : Ct sdX q y_Rows_takes prog_6_method_2_code 3 (some (FieldType.int)) 0 [.ref (q.2.2.1 this), .int a1, .int a2] μ ν ((φIm ν) o).1 ((φIm ν) o).2.1 ((φIm ν) o).2.2 := Ct_of rfl hg (fun z C => w_Rows_takes C h_this) (Nat.le_of_ble_eq_true rfl) ho
def F_Cork_voice (this : Nat) (a1 : Int32) (a2 : Int32) (a3 : Int32) (a4 : Int32) : Option (Int32) := some 0
theorem d_Cork_voice_0 : decode prog_2_method_3_code 0 = .ok (.iconst 0, 1) := by decide +kernel
theorem d_Cork_voice_1 : decode prog_2_method_3_code 1 = .ok (.ireturn, 1) := by decide +kernel
set_option maxRecDepth 10000 in
set_option maxHeartbeats 4000000 in
theorem w_Cork_voice {q : QT} {z : ZT} {this : Nat} {a1 : Int32} {a2 : Int32} {a3 : Int32} {a4 : Int32} {μ : Mm} {ν : Ml} (C : Ctx sdX q z prog_2_method_3_code "BesideTom$CorkKind" 5 0 (some (FieldType.int))) (h_this : this ∈ kd_Cork) : R sdX q z 5 (φI μ ν) (F_Cork_voice this a1 a2 a3 a4) μ ν 0 [(0, .ref (q.2.2.1 this)), (1, .int a1), (2, .int a2), (3, .int a3), (4, .int a4)] [] := by
  unfold F_Cork_voice
  refine R_iconst C d_Cork_voice_0 (v := 0) (by decide +kernel) ?_
  exact R_iret C rfl d_Cork_voice_1
theorem c_Cork_voice {q : QT} (hg : GOk sdX q) {this : Nat} {a1 : Int32} {a2 : Int32} {a3 : Int32} {a4 : Int32} {μ : Mm} {ν : Ml} (h_this : this ∈ kd_Cork) {o : Int32} (ho : F_Cork_voice this a1 a2 a3 a4 = some o) : Ct sdX q y_Cork_voice prog_2_method_3_code 5 (some (FieldType.int)) 0 [.ref (q.2.2.1 this), .int a1, .int a2, .int a3, .int a4] μ ν ((φI μ ν) o).1 ((φI μ ν) o).2.1 ((φI μ ν) o).2.2 := Ct_of rfl hg (fun z C => w_Cork_voice C h_this) (Nat.le_of_ble_eq_true rfl) ho
