def F_Seat_sits (this : Nat) (a1 : Int32) (a2 : Int32) (μ : Mm) : Option (Mm) := (F_Seat_whoHas this a2 μ).bind fun v1 => jn (α := Mm) (fun K7 => (if v1 < 0 then K7 μ else (rdI (μ (this + 3)) 6 a1).bind fun v3 => (wrI μ (this + 3) 6 v1 v3).bind fun μ4 => K7 μ4)) (fun (μ5 : Mm) => (wrI μ5 (this + 3) 6 a1 a2).bind fun μ6 => some μ6)
theorem d_Seat_sits_0 : decode prog_7_method_9_code 0 = .ok (.aload_n 0, 1) := by decide +kernel
theorem d_Seat_sits_1 : decode prog_7_method_9_code 1 = .ok (.iload_n 2, 1) := by decide +kernel
theorem d_Seat_sits_2 : decode prog_7_method_9_code 2 = .ok (.invokevirtual 84, 3) := by decide +kernel
theorem d_Seat_sits_5 : decode prog_7_method_9_code 5 = .ok (.istore_n 3, 1) := by decide +kernel
theorem d_Seat_sits_6 : decode prog_7_method_9_code 6 = .ok (.iload_n 3, 1) := by decide +kernel
theorem d_Seat_sits_10 : decode prog_7_method_9_code 10 = .ok (.aload_n 0, 1) := by decide +kernel
theorem d_Seat_sits_14 : decode prog_7_method_9_code 14 = .ok (.iload_n 3, 1) := by decide +kernel
theorem d_Seat_sits_15 : decode prog_7_method_9_code 15 = .ok (.aload_n 0, 1) := by decide +kernel
theorem d_Seat_sits_19 : decode prog_7_method_9_code 19 = .ok (.iload_n 1, 1) := by decide +kernel
theorem d_Seat_sits_21 : decode prog_7_method_9_code 21 = .ok (.iastore, 1) := by decide +kernel
theorem d_Seat_sits_16 : decode prog_7_method_9_code 16 = .ok (.getfield 28, 3) := by decide +kernel
theorem d_Seat_sits_11 : decode prog_7_method_9_code 11 = .ok (.getfield 28, 3) := by decide +kernel
theorem d_Seat_sits_7 : decode prog_7_method_9_code 7 = .ok (.ifCond .lt 15, 3) := by decide +kernel
theorem d_Seat_sits_22 : decode prog_7_method_9_code 22 = .ok (.aload_n 0, 1) := by decide +kernel
theorem d_Seat_sits_26 : decode prog_7_method_9_code 26 = .ok (.iload_n 1, 1) := by decide +kernel
theorem d_Seat_sits_27 : decode prog_7_method_9_code 27 = .ok (.iload_n 2, 1) := by decide +kernel
theorem d_Seat_sits_29 : decode prog_7_method_9_code 29 = .ok (.return_, 1) := by decide +kernel
theorem d_Seat_sits_28 : decode prog_7_method_9_code 28 = .ok (.iastore, 1) := by decide +kernel
theorem d_Seat_sits_23 : decode prog_7_method_9_code 23 = .ok (.getfield 28, 3) := by decide +kernel
theorem d_Seat_sits_20 : decode prog_7_method_9_code 20 = .ok (.iaload, 1) := by decide +kernel
set_option maxRecDepth 10000 in
set_option maxHeartbeats 4000000 in
theorem w_Seat_sits {q : QT} {z : ZT} {this : Nat} {a1 : Int32} {a2 : Int32} {μ : Mm} {ν : Ml} (C : Ctx sdX q z prog_7_method_9_code "BesideTom$Seating" 4 1 none) (h_this : this ∈ seats) : R sdX q z 4 (φVm ν) (F_Seat_sits this a1 a2 μ) μ ν 0 [(0, .ref (q.2.2.1 this)), (1, .int a1), (2, .int a2)] [] := by
  unfold F_Seat_sits
  refine R_aload_n C 0 d_Seat_sits_0 rfl rfl ?_
  refine R_iload_n C 2 d_Seat_sits_1 rfl rfl ?_
  refine R_bind (fun v1 h2 => ?_)
  refine R_callV C (se_0 h_this) (sc_0 h_this q _ _) rfl cf_Seat_whoHas rfl ml_Seat_84 im_Seat_whoHas sl_Seat_Seat_whoHas_Seat_whoHas (c_Seat_whoHas (gk C) h_this h2) (by decide) (by decide) rfl rfl (Nat.le_of_ble_eq_true rfl) d_Seat_sits_2 ?_
  refine R_istore_n C (lv' := [(3, .int v1), (0, .ref (q.2.2.1 this)), (1, .int a1), (2, .int a2)]) d_Seat_sits_5 rfl (by decide) rfl ?_
  refine R_iload_n C 0 d_Seat_sits_6 rfl rfl ?_
  refine R_jn (fun K7 => ∀ (μ5 : Mm), R sdX q z 4 (φVm ν) (K7 μ5) μ5 ν 22 [(0, .ref (q.2.2.1 this)), (1, .int a1), (2, .int a2)] []) ?_ (fun K7 hK7 => ?_)
  · intro μ5
    refine R_aload_n C 0 d_Seat_sits_22 rfl rfl ?_
    refine gf_Seat_desk C h_this fl_Seat_28 d_Seat_sits_23 ?_
    refine R_iload_n C 1 d_Seat_sits_26 rfl rfl ?_
    refine R_iload_n C 2 d_Seat_sits_27 rfl rfl ?_
    refine R_iast C (se_3 h_this) (fun h => sc_3 h_this q h _) d_Seat_sits_28 (fun μ6 => ?_)
    exact R_vret C rfl d_Seat_sits_29
  · skip
    refine R_if_lt C d_Seat_sits_7 (tgt := 22) (by decide) ?_ ?_
    · skip
      exact R_sub [1, 2, 3] rfl (hK7 μ)
    · skip
      refine R_aload_n C 1 d_Seat_sits_10 rfl rfl ?_
      refine gf_Seat_desk C h_this fl_Seat_28 d_Seat_sits_11 ?_
      refine R_iload_n C 0 d_Seat_sits_14 rfl rfl ?_
      refine R_aload_n C 1 d_Seat_sits_15 rfl rfl ?_
      refine gf_Seat_desk C h_this fl_Seat_28 d_Seat_sits_16 ?_
      refine R_iload_n C 2 d_Seat_sits_19 rfl rfl ?_
      refine R_iald C (se_3 h_this) (sc_3 h_this q _ _) d_Seat_sits_20 (fun v3 => ?_)
      refine R_iast C (se_3 h_this) (fun h => sc_3 h_this q h _) d_Seat_sits_21 (fun μ4 => ?_)
      exact R_sub [1, 2, 3] rfl (hK7 μ4)
theorem c_Seat_sits {q : QT} (hg : GOk sdX q) {this : Nat} {a1 : Int32} {a2 : Int32} {μ : Mm} {ν : Ml} (h_this : this ∈ seats) {o : Mm} (ho : F_Seat_sits this a1 a2 μ = some o) : Ct sdX q y_Seat_sits prog_7_method_9_code 4 none 1 [.ref (q.2.2.1 this), .int a1, .int a2] μ ν ((φVm ν) o).1 ((φVm ν) o).2.1 ((φVm ν) o).2.2 := Ct_of rfl hg (fun z C => w_Seat_sits C h_this) (Nat.le_of_ble_eq_true rfl) ho
def F_BT_trace (a1 : Int32) (μ : Mm) : Option (Int32) := lt_ (if (μ 11 1) > 20 then 20 else (μ 11 1)) fun x1 => (F_BT_within a1 0 (x1 - 1)).bind fun v2 => (if v2 = 0 then some (-1) else (rdI (μ 12) 20 a1).bind fun v4 => some v4)
theorem d_BT_trace_0 : decode prog_1_method_39_code 0 = .ok (.iload_n 1, 1) := by decide +kernel
theorem d_BT_trace_1 : decode prog_1_method_39_code 1 = .ok (.iconst 0, 1) := by decide +kernel
theorem d_BT_trace_2 : decode prog_1_method_39_code 2 = .ok (.aload_n 0, 1) := by decide +kernel
theorem d_BT_trace_9 : decode prog_1_method_39_code 9 = .ok (.bipush 20, 2) := by decide +kernel
theorem d_BT_trace_11 : decode prog_1_method_39_code 11 = .ok (.invokestatic 305, 3) := by decide +kernel
theorem d_BT_trace_14 : decode prog_1_method_39_code 14 = .ok (.iconst 1, 1) := by decide +kernel
theorem d_BT_trace_15 : decode prog_1_method_39_code 15 = .ok (.isub, 1) := by decide +kernel
theorem d_BT_trace_16 : decode prog_1_method_39_code 16 = .ok (.invokestatic 76, 3) := by decide +kernel
theorem d_BT_trace_34 : decode prog_1_method_39_code 34 = .ok (.iconst (-1), 1) := by decide +kernel
theorem d_BT_trace_35 : decode prog_1_method_39_code 35 = .ok (.ireturn, 1) := by decide +kernel
theorem d_BT_trace_22 : decode prog_1_method_39_code 22 = .ok (.aload_n 0, 1) := by decide +kernel
theorem d_BT_trace_29 : decode prog_1_method_39_code 29 = .ok (.iload_n 1, 1) := by decide +kernel
theorem d_BT_trace_31 : decode prog_1_method_39_code 31 = .ok (.goto 4, 3) := by decide +kernel
theorem d_BT_trace_26 : decode prog_1_method_39_code 26 = .ok (.getfield 308, 3) := by decide +kernel
theorem d_BT_trace_23 : decode prog_1_method_39_code 23 = .ok (.getfield 72, 3) := by decide +kernel
theorem d_BT_trace_19 : decode prog_1_method_39_code 19 = .ok (.ifCond .eq 15, 3) := by decide +kernel
theorem d_BT_trace_6 : decode prog_1_method_39_code 6 = .ok (.getfield 283, 3) := by decide +kernel
theorem d_BT_trace_3 : decode prog_1_method_39_code 3 = .ok (.getfield 72, 3) := by decide +kernel
theorem d_BT_trace_30 : decode prog_1_method_39_code 30 = .ok (.iaload, 1) := by decide +kernel
set_option maxRecDepth 10000 in
set_option maxHeartbeats 4000000 in
theorem w_BT_trace {q : QT} {z : ZT} {a1 : Int32} {μ : Mm} {ν : Ml} (C : Ctx sdX q z prog_1_method_39_code "BesideTom" 2 1 (some (FieldType.int))) : R sdX q z 2 (φI μ ν) (F_BT_trace a1 μ) μ ν 0 [(0, .ref (q.2.2.1 0)), (1, .int a1)] [] := by
  unfold F_BT_trace
  refine R_iload_n C 1 d_BT_trace_0 rfl rfl ?_
  refine R_iconst C d_BT_trace_1 (v := 0) (by decide +kernel) ?_
  refine R_aload_n C 0 d_BT_trace_2 rfl rfl ?_
  refine gf_BT_trace C fl_BT_72 d_BT_trace_3 ?_
  refine gf_Trace_ran C fl_BT_283 d_BT_trace_6 ?_
  refine R_bipush C d_BT_trace_9 (v := 20) (by decide +kernel) ?_
  refine R_min C ml_BT_305 sm_Math_min in_Math co_Math_min (by decide) (Nat.le_of_ble_eq_true rfl) d_BT_trace_11 ?_
  refine R_nm (fun x1 => ?_)
  refine R_iconst C d_BT_trace_14 (v := 1) (by decide +kernel) ?_
  refine R_isub C d_BT_trace_15 ?_
  refine R_bind (fun v2 h3 => ?_)
  refine R_callS C cf_BT_within ml_BT_76 sm_BT_within (c_BT_within (gk C) h3) (by decide) (by decide) rfl rfl (Nat.le_of_ble_eq_true rfl) d_BT_trace_16 ?_
  refine R_if_eq C d_BT_trace_19 (tgt := 34) (by decide) ?_ ?_
  · skip
    refine R_iconst C d_BT_trace_34 (v := (-1)) (by decide +kernel) ?_
    exact R_iret C rfl d_BT_trace_35
  · skip
    refine R_aload_n C 0 d_BT_trace_22 rfl rfl ?_
    refine gf_BT_trace C fl_BT_72 d_BT_trace_23 ?_
    refine gf_Trace_bodies C fl_BT_308 d_BT_trace_26 ?_
    refine R_iload_n C 1 d_BT_trace_29 rfl rfl ?_
    refine R_iald C xm_12 (xc_12 q _ _) d_BT_trace_30 (fun v4 => ?_)
    refine R_goto C d_BT_trace_31 (tgt := 35) (by decide) ?_
    exact R_iret C rfl d_BT_trace_35
theorem c_BT_trace {q : QT} (hg : GOk sdX q) {a1 : Int32} {μ : Mm} {ν : Ml} {o : Int32} (ho : F_BT_trace a1 μ = some o) : Ct sdX q y_BT_trace prog_1_method_39_code 2 (some (FieldType.int)) 1 [.ref (q.2.2.1 0), .int a1] μ ν ((φI μ ν) o).1 ((φI μ ν) o).2.1 ((φI μ ν) o).2.2 := Ct_of rfl hg (fun z C => w_BT_trace C) (Nat.le_of_ble_eq_true rfl) ho
def F_Quiet_voice (this : Nat) (a1 : Int32) (a2 : Int32) (a3 : Int32) (a4 : Int32) : Option (Int32) := (F_PK_voice this a1 a2 a3 a4).bind fun v1 => some (v1 / 2)
theorem d_Quiet_voice_0 : decode prog_4_method_3_code 0 = .ok (.aload_n 0, 1) := by decide +kernel
theorem d_Quiet_voice_1 : decode prog_4_method_3_code 1 = .ok (.iload_n 1, 1) := by decide +kernel
theorem d_Quiet_voice_2 : decode prog_4_method_3_code 2 = .ok (.iload_n 2, 1) := by decide +kernel
theorem d_Quiet_voice_3 : decode prog_4_method_3_code 3 = .ok (.iload_n 3, 1) := by decide +kernel
theorem d_Quiet_voice_4 : decode prog_4_method_3_code 4 = .ok (.iload 4, 2) := by decide +kernel
theorem d_Quiet_voice_6 : decode prog_4_method_3_code 6 = .ok (.invokespecial 11, 3) := by decide +kernel
theorem d_Quiet_voice_9 : decode prog_4_method_3_code 9 = .ok (.iconst 2, 1) := by decide +kernel
theorem d_Quiet_voice_11 : decode prog_4_method_3_code 11 = .ok (.ireturn, 1) := by decide +kernel
theorem d_Quiet_voice_10 : decode prog_4_method_3_code 10 = .ok (.idiv, 1) := by decide +kernel
set_option maxRecDepth 10000 in
set_option maxHeartbeats 4000000 in
theorem w_Quiet_voice {q : QT} {z : ZT} {this : Nat} {a1 : Int32} {a2 : Int32} {a3 : Int32} {a4 : Int32} {μ : Mm} {ν : Ml} (C : Ctx sdX q z prog_4_method_3_code "BesideTom$QuietKind" 5 1 (some (FieldType.int))) (h_this : this ∈ kd_Quiet) : R sdX q z 5 (φI μ ν) (F_Quiet_voice this a1 a2 a3 a4) μ ν 0 [(0, .ref (q.2.2.1 this)), (1, .int a1), (2, .int a2), (3, .int a3), (4, .int a4)] [] := by
  unfold F_Quiet_voice
  refine R_aload_n C 0 d_Quiet_voice_0 rfl rfl ?_
  refine R_iload_n C 1 d_Quiet_voice_1 rfl rfl ?_
  refine R_iload_n C 2 d_Quiet_voice_2 rfl rfl ?_
  refine R_iload_n C 3 d_Quiet_voice_3 rfl rfl ?_
  refine R_iload C 4 d_Quiet_voice_4 rfl ?_
  refine R_bind (fun v1 h2 => ?_)
  obtain ⟨ci_, Cn_, T_, N_, hq1_, hq2_⟩ := kc_0 (kdup (A := kd_Quiet) (by decide) h_this) q (μ this) (ν this)
  refine R_callSU C (ke_0 (kdup (A := kd_Quiet) (by decide) h_this)) hq1_ hq2_ cf_PK_voice (by decide) ml_Quiet_11 sa_PK_PK_voice su_Quiet_PK im_PK_voice (c_PK_voice (gk C) (kdup (A := kd_Quiet) (by decide) h_this) h2) (by decide) (by decide) rfl rfl (Nat.le_of_ble_eq_true rfl) d_Quiet_voice_6 ?_
  refine R_iconst C d_Quiet_voice_9 (v := 2) (by decide +kernel) ?_
  refine R_idiv C d_Quiet_voice_10 (by decide) ?_
  exact R_iret C rfl d_Quiet_voice_11
theorem c_Quiet_voice {q : QT} (hg : GOk sdX q) {this : Nat} {a1 : Int32} {a2 : Int32} {a3 : Int32} {a4 : Int32} {μ : Mm} {ν : Ml} (h_this : this ∈ kd_Quiet) {o : Int32} (ho : F_Quiet_voice this a1 a2 a3 a4 = some o) : Ct sdX q y_Quiet_voice prog_4_method_3_code 5 (some (FieldType.int)) 1 [.ref (q.2.2.1 this), .int a1, .int a2, .int a3, .int a4] μ ν ((φI μ ν) o).1 ((φI μ ν) o).2.1 ((φI μ ν) o).2.2 := Ct_of rfl hg (fun z C => w_Quiet_voice C h_this) (Nat.le_of_ble_eq_true rfl) ho
def F_Talk_voice (this : Nat) (a1 : Int32) (a2 : Int32) (a3 : Int32) (a4 : Int32) : Option (Int32) := (F_PK_voice this a1 a2 a3 a4).bind fun v1 => (if a2 ≤ 0 then some (v1 + 0) else some (v1 + a3))
theorem d_Talk_voice_0 : decode prog_9_method_3_code 0 = .ok (.aload_n 0, 1) := by decide +kernel
theorem d_Talk_voice_1 : decode prog_9_method_3_code 1 = .ok (.iload_n 1, 1) := by decide +kernel
theorem d_Talk_voice_2 : decode prog_9_method_3_code 2 = .ok (.iload_n 2, 1) := by decide +kernel
theorem d_Talk_voice_3 : decode prog_9_method_3_code 3 = .ok (.iload_n 3, 1) := by decide +kernel
theorem d_Talk_voice_4 : decode prog_9_method_3_code 4 = .ok (.iload 4, 2) := by decide +kernel
theorem d_Talk_voice_6 : decode prog_9_method_3_code 6 = .ok (.invokespecial 11, 3) := by decide +kernel
theorem d_Talk_voice_9 : decode prog_9_method_3_code 9 = .ok (.iload_n 2, 1) := by decide +kernel
theorem d_Talk_voice_17 : decode prog_9_method_3_code 17 = .ok (.iconst 0, 1) := by decide +kernel
theorem d_Talk_voice_18 : decode prog_9_method_3_code 18 = .ok (.iadd, 1) := by decide +kernel
theorem d_Talk_voice_19 : decode prog_9_method_3_code 19 = .ok (.ireturn, 1) := by decide +kernel
theorem d_Talk_voice_13 : decode prog_9_method_3_code 13 = .ok (.iload_n 3, 1) := by decide +kernel
theorem d_Talk_voice_14 : decode prog_9_method_3_code 14 = .ok (.goto 4, 3) := by decide +kernel
theorem d_Talk_voice_10 : decode prog_9_method_3_code 10 = .ok (.ifCond .le 7, 3) := by decide +kernel
set_option maxRecDepth 10000 in
set_option maxHeartbeats 4000000 in
theorem w_Talk_voice {q : QT} {z : ZT} {this : Nat} {a1 : Int32} {a2 : Int32} {a3 : Int32} {a4 : Int32} {μ : Mm} {ν : Ml} (C : Ctx sdX q z prog_9_method_3_code "BesideTom$TalkerKind" 5 1 (some (FieldType.int))) (h_this : this ∈ kd_Talk) : R sdX q z 5 (φI μ ν) (F_Talk_voice this a1 a2 a3 a4) μ ν 0 [(0, .ref (q.2.2.1 this)), (1, .int a1), (2, .int a2), (3, .int a3), (4, .int a4)] [] := by
  unfold F_Talk_voice
  refine R_aload_n C 0 d_Talk_voice_0 rfl rfl ?_
  refine R_iload_n C 1 d_Talk_voice_1 rfl rfl ?_
  refine R_iload_n C 2 d_Talk_voice_2 rfl rfl ?_
  refine R_iload_n C 3 d_Talk_voice_3 rfl rfl ?_
  refine R_iload C 4 d_Talk_voice_4 rfl ?_
  refine R_bind (fun v1 h2 => ?_)
  obtain ⟨ci_, Cn_, T_, N_, hq1_, hq2_⟩ := kc_0 (kdup (A := kd_Talk) (by decide) h_this) q (μ this) (ν this)
  refine R_callSU C (ke_0 (kdup (A := kd_Talk) (by decide) h_this)) hq1_ hq2_ cf_PK_voice (by decide) ml_Talk_11 sa_PK_PK_voice su_Talk_PK im_PK_voice (c_PK_voice (gk C) (kdup (A := kd_Talk) (by decide) h_this) h2) (by decide) (by decide) rfl rfl (Nat.le_of_ble_eq_true rfl) d_Talk_voice_6 ?_
  refine R_iload_n C 2 d_Talk_voice_9 rfl rfl ?_
  refine R_if_le C d_Talk_voice_10 (tgt := 17) (by decide) ?_ ?_
  · skip
    refine R_iconst C d_Talk_voice_17 (v := 0) (by decide +kernel) ?_
    refine R_iadd C d_Talk_voice_18 ?_
    exact R_iret C rfl d_Talk_voice_19
  · skip
    refine R_iload_n C 3 d_Talk_voice_13 rfl rfl ?_
    refine R_goto C d_Talk_voice_14 (tgt := 18) (by decide) ?_
    refine R_iadd C d_Talk_voice_18 ?_
    exact R_iret C rfl d_Talk_voice_19
theorem c_Talk_voice {q : QT} (hg : GOk sdX q) {this : Nat} {a1 : Int32} {a2 : Int32} {a3 : Int32} {a4 : Int32} {μ : Mm} {ν : Ml} (h_this : this ∈ kd_Talk) {o : Int32} (ho : F_Talk_voice this a1 a2 a3 a4 = some o) : Ct sdX q y_Talk_voice prog_9_method_3_code 5 (some (FieldType.int)) 1 [.ref (q.2.2.1 this), .int a1, .int a2, .int a3, .int a4] μ ν ((φI μ ν) o).1 ((φI μ ν) o).2.1 ((φI μ ν) o).2.2 := Ct_of rfl hg (fun z C => w_Talk_voice C h_this) (Nat.le_of_ble_eq_true rfl) ho
def F_Told_voice (this : Nat) (a1 : Int32) (a2 : Int32) (a3 : Int32) (a4 : Int32) : Option (Int32) := (F_PK_voice this a1 a2 a3 a4).bind fun v1 => some (v1 + a4)
theorem d_Told_voice_0 : decode prog_10_method_3_code 0 = .ok (.aload_n 0, 1) := by decide +kernel
theorem d_Told_voice_1 : decode prog_10_method_3_code 1 = .ok (.iload_n 1, 1) := by decide +kernel
theorem d_Told_voice_2 : decode prog_10_method_3_code 2 = .ok (.iload_n 2, 1) := by decide +kernel
theorem d_Told_voice_3 : decode prog_10_method_3_code 3 = .ok (.iload_n 3, 1) := by decide +kernel
theorem d_Told_voice_4 : decode prog_10_method_3_code 4 = .ok (.iload 4, 2) := by decide +kernel
theorem d_Told_voice_6 : decode prog_10_method_3_code 6 = .ok (.invokespecial 13, 3) := by decide +kernel
theorem d_Told_voice_9 : decode prog_10_method_3_code 9 = .ok (.iload 4, 2) := by decide +kernel
theorem d_Told_voice_11 : decode prog_10_method_3_code 11 = .ok (.iadd, 1) := by decide +kernel
theorem d_Told_voice_12 : decode prog_10_method_3_code 12 = .ok (.ireturn, 1) := by decide +kernel
set_option maxRecDepth 10000 in
set_option maxHeartbeats 4000000 in
theorem w_Told_voice {q : QT} {z : ZT} {this : Nat} {a1 : Int32} {a2 : Int32} {a3 : Int32} {a4 : Int32} {μ : Mm} {ν : Ml} (C : Ctx sdX q z prog_10_method_3_code "BesideTom$ToldKind" 5 1 (some (FieldType.int))) (h_this : this ∈ kd_Told) : R sdX q z 5 (φI μ ν) (F_Told_voice this a1 a2 a3 a4) μ ν 0 [(0, .ref (q.2.2.1 this)), (1, .int a1), (2, .int a2), (3, .int a3), (4, .int a4)] [] := by
  unfold F_Told_voice
  refine R_aload_n C 0 d_Told_voice_0 rfl rfl ?_
  refine R_iload_n C 1 d_Told_voice_1 rfl rfl ?_
  refine R_iload_n C 2 d_Told_voice_2 rfl rfl ?_
  refine R_iload_n C 3 d_Told_voice_3 rfl rfl ?_
  refine R_iload C 4 d_Told_voice_4 rfl ?_
  refine R_bind (fun v1 h2 => ?_)
  obtain ⟨ci_, Cn_, T_, N_, hq1_, hq2_⟩ := kc_0 (kdup (A := kd_Told) (by decide) h_this) q (μ this) (ν this)
  refine R_callSO C (ke_0 (kdup (A := kd_Told) (by decide) h_this)) hq1_ hq2_ cf_PK_voice (x := ⟨"BesideTom$ShortKind", "voice", "(IIII)I"⟩) (by decide) rfl ml_Told_13 sa_Short_PK_voice su_Told_Short su_Short_PK im_PK_voice (c_PK_voice (gk C) (kdup (A := kd_Told) (by decide) h_this) h2) (by decide) (by decide) rfl rfl (Nat.le_of_ble_eq_true rfl) d_Told_voice_6 ?_
  refine R_iload C 4 d_Told_voice_9 rfl ?_
  refine R_iadd C d_Told_voice_11 ?_
  exact R_iret C rfl d_Told_voice_12
theorem c_Told_voice {q : QT} (hg : GOk sdX q) {this : Nat} {a1 : Int32} {a2 : Int32} {a3 : Int32} {a4 : Int32} {μ : Mm} {ν : Ml} (h_this : this ∈ kd_Told) {o : Int32} (ho : F_Told_voice this a1 a2 a3 a4 = some o) : Ct sdX q y_Told_voice prog_10_method_3_code 5 (some (FieldType.int)) 1 [.ref (q.2.2.1 this), .int a1, .int a2, .int a3, .int a4] μ ν ((φI μ ν) o).1 ((φI μ ν) o).2.1 ((φI μ ν) o).2.2 := Ct_of rfl hg (fun z C => w_Told_voice C h_this) (Nat.le_of_ble_eq_true rfl) ho
def F_PK_whispers (this : Nat) (a2 : Int32) (μ : Mm) : Option (Int32 × Mm) := (F_Trace_begins 10 μ).bind fun μ1 => some ((a2 + (μ1 11 2)), μ1)
theorem d_PK_whispers_0 : decode prog_3_method_5_code 0 = .ok (.aload_n 1, 1) := by decide +kernel
theorem d_PK_whispers_1 : decode prog_3_method_5_code 1 = .ok (.bipush 10, 2) := by decide +kernel
theorem d_PK_whispers_3 : decode prog_3_method_5_code 3 = .ok (.invokevirtual 7, 3) := by decide +kernel
theorem d_PK_whispers_6 : decode prog_3_method_5_code 6 = .ok (.iload_n 2, 1) := by decide +kernel
theorem d_PK_whispers_7 : decode prog_3_method_5_code 7 = .ok (.aload_n 1, 1) := by decide +kernel
theorem d_PK_whispers_11 : decode prog_3_method_5_code 11 = .ok (.iadd, 1) := by decide +kernel
theorem d_PK_whispers_12 : decode prog_3_method_5_code 12 = .ok (.ireturn, 1) := by decide +kernel
theorem d_PK_whispers_8 : decode prog_3_method_5_code 8 = .ok (.getfield 13, 3) := by decide +kernel
set_option maxRecDepth 10000 in
set_option maxHeartbeats 4000000 in
theorem w_PK_whispers {q : QT} {z : ZT} {this : Nat} {a2 : Int32} {μ : Mm} {ν : Ml} (C : Ctx sdX q z prog_3_method_5_code "BesideTom$PupilKind" 3 1 (some (FieldType.int))) (h_this : this ∈ kd_PK) : R sdX q z 3 (φIm ν) (F_PK_whispers this a2 μ) μ ν 0 [(0, .ref (q.2.2.1 this)), (1, .ref (q.2.2.1 11)), (2, .int a2)] [] := by
  unfold F_PK_whispers
  refine R_aload_n C 1 d_PK_whispers_0 rfl rfl ?_
  refine R_bipush C d_PK_whispers_1 (v := 10) (by decide +kernel) ?_
  refine R_bind (fun μ1 h2 => ?_)
  refine R_callV C xm_11 (xc_11 q _ _) rfl cf_Trace_begins rfl ml_PK_7 im_Trace_begins sl_Trace_Trace_begins_Trace_begins (c_Trace_begins (gk C) h2) (by decide) (by decide) rfl rfl (Nat.le_of_ble_eq_true rfl) d_PK_whispers_3 ?_
  refine R_iload_n C 2 d_PK_whispers_6 rfl rfl ?_
  refine R_aload_n C 1 d_PK_whispers_7 rfl rfl ?_
  refine gf_Trace_number C fl_PK_13 d_PK_whispers_8 ?_
  refine R_iadd C d_PK_whispers_11 ?_
  exact R_iret C rfl d_PK_whispers_12
theorem c_PK_whispers {q : QT} (hg : GOk sdX q) {this : Nat} {a2 : Int32} {μ : Mm} {ν : Ml} (h_this : this ∈ kd_PK) {o : Int32 × Mm} (ho : F_PK_whispers this a2 μ = some o) : Ct sdX q y_PK_whispers prog_3_method_5_code 3 (some (FieldType.int)) 1 [.ref (q.2.2.1 this), .ref (q.2.2.1 11), .int a2] μ ν ((φIm ν) o).1 ((φIm ν) o).2.1 ((φIm ν) o).2.2 := Ct_of rfl hg (fun z C => w_PK_whispers C h_this) (Nat.le_of_ble_eq_true rfl) ho
def F_BT_away (a1 : Int32) (a2 : Int32) (μ : Mm) : Option (Int32 × Mm) := (F_Seat_has 40 a1 μ).bind fun v1 => (if v1 = 0 then some ((-1), μ) else (F_Seat_isAway 40 a1 μ).bind fun v3 => jn (α := Int32) (fun K8 => (if v3 = 0 then K8 0 else K8 1)) (fun (j5 : Int32) => (F_Seat_setAway 40 a1 a2 μ).bind fun μ6 => some (j5, μ6)))
theorem d_BT_away_0 : decode prog_1_method_5_code 0 = .ok (.aload_n 0, 1) := by decide +kernel
theorem d_BT_away_4 : decode prog_1_method_5_code 4 = .ok (.iload_n 1, 1) := by decide +kernel
theorem d_BT_away_5 : decode prog_1_method_5_code 5 = .ok (.invokevirtual 92, 3) := by decide +kernel
theorem d_BT_away_13 : decode prog_1_method_5_code 13 = .ok (.aload_n 0, 1) := by decide +kernel
theorem d_BT_away_17 : decode prog_1_method_5_code 17 = .ok (.iload_n 1, 1) := by decide +kernel
theorem d_BT_away_18 : decode prog_1_method_5_code 18 = .ok (.invokevirtual 111, 3) := by decide +kernel
theorem d_BT_away_28 : decode prog_1_method_5_code 28 = .ok (.iconst 0, 1) := by decide +kernel
theorem d_BT_away_24 : decode prog_1_method_5_code 24 = .ok (.iconst 1, 1) := by decide +kernel
theorem d_BT_away_25 : decode prog_1_method_5_code 25 = .ok (.goto 4, 3) := by decide +kernel
theorem d_BT_away_21 : decode prog_1_method_5_code 21 = .ok (.ifCond .eq 7, 3) := by decide +kernel
theorem d_BT_away_29 : decode prog_1_method_5_code 29 = .ok (.istore_n 3, 1) := by decide +kernel
theorem d_BT_away_30 : decode prog_1_method_5_code 30 = .ok (.aload_n 0, 1) := by decide +kernel
theorem d_BT_away_34 : decode prog_1_method_5_code 34 = .ok (.iload_n 1, 1) := by decide +kernel
theorem d_BT_away_35 : decode prog_1_method_5_code 35 = .ok (.iload_n 2, 1) := by decide +kernel
theorem d_BT_away_36 : decode prog_1_method_5_code 36 = .ok (.invokevirtual 137, 3) := by decide +kernel
theorem d_BT_away_39 : decode prog_1_method_5_code 39 = .ok (.iload_n 3, 1) := by decide +kernel
theorem d_BT_away_40 : decode prog_1_method_5_code 40 = .ok (.ireturn, 1) := by decide +kernel
theorem d_BT_away_31 : decode prog_1_method_5_code 31 = .ok (.getfield 52, 3) := by decide +kernel
theorem d_BT_away_14 : decode prog_1_method_5_code 14 = .ok (.getfield 52, 3) := by decide +kernel
theorem d_BT_away_11 : decode prog_1_method_5_code 11 = .ok (.iconst (-1), 1) := by decide +kernel
theorem d_BT_away_12 : decode prog_1_method_5_code 12 = .ok (.ireturn, 1) := by decide +kernel
theorem d_BT_away_8 : decode prog_1_method_5_code 8 = .ok (.ifCond .ne 5, 3) := by decide +kernel
theorem d_BT_away_1 : decode prog_1_method_5_code 1 = .ok (.getfield 52, 3) := by decide +kernel
set_option maxRecDepth 10000 in
set_option maxHeartbeats 4000000 in
theorem w_BT_away {q : QT} {z : ZT} {a1 : Int32} {a2 : Int32} {μ : Mm} {ν : Ml} (C : Ctx sdX q z prog_1_method_5_code "BesideTom" 4 2 (some (FieldType.int))) : R sdX q z 4 (φIm ν) (F_BT_away a1 a2 μ) μ ν 0 [(0, .ref (q.2.2.1 0)), (1, .int a1), (2, .int a2)] [] := by
  unfold F_BT_away
  refine R_aload_n C 0 d_BT_away_0 rfl rfl ?_
  refine gf_BT_now C fl_BT_52 d_BT_away_1 ?_
  refine R_iload_n C 1 d_BT_away_4 rfl rfl ?_
  refine R_bind (fun v1 h2 => ?_)
  refine R_callV C (se_0 s40) (sc_0 s40 q _ _) rfl cf_Seat_has rfl ml_BT_92 im_Seat_has sl_Seat_Seat_has_Seat_has (c_Seat_has (gk C) s40 h2) (by decide) (by decide) rfl rfl (Nat.le_of_ble_eq_true rfl) d_BT_away_5 ?_
  refine R_if_ne C d_BT_away_8 (tgt := 13) (by decide) ?_ ?_
  · skip
    refine R_aload_n C 0 d_BT_away_13 rfl rfl ?_
    refine gf_BT_now C fl_BT_52 d_BT_away_14 ?_
    refine R_iload_n C 1 d_BT_away_17 rfl rfl ?_
    refine R_bind (fun v3 h4 => ?_)
    refine R_callV C (se_0 s40) (sc_0 s40 q _ _) rfl cf_Seat_isAway rfl ml_BT_111 im_Seat_isAway sl_Seat_Seat_isAway_Seat_isAway (c_Seat_isAway (gk C) s40 h4) (by decide) (by decide) rfl rfl (Nat.le_of_ble_eq_true rfl) d_BT_away_18 ?_
    refine R_jn (fun K8 => ∀ (j5 : Int32), R sdX q z 4 (φIm ν) (K8 j5) μ ν 29 [(0, .ref (q.2.2.1 0)), (1, .int a1), (2, .int a2)] [.int j5]) ?_ (fun K8 hK8 => ?_)
    · intro j5
      refine R_istore_n C (lv' := [(3, .int j5), (0, .ref (q.2.2.1 0)), (1, .int a1), (2, .int a2)]) d_BT_away_29 rfl (by decide) rfl ?_
      refine R_aload_n C 1 d_BT_away_30 rfl rfl ?_
      refine gf_BT_now C fl_BT_52 d_BT_away_31 ?_
      refine R_iload_n C 2 d_BT_away_34 rfl rfl ?_
      refine R_iload_n C 3 d_BT_away_35 rfl rfl ?_
      refine R_bind (fun μ6 h7 => ?_)
      refine R_callV C (se_0 s40) (sc_0 s40 q _ _) rfl cf_Seat_setAway rfl ml_BT_137 im_Seat_setAway sl_Seat_Seat_setAway_Seat_setAway (c_Seat_setAway (gk C) s40 h7) (by decide) (by decide) rfl rfl (Nat.le_of_ble_eq_true rfl) d_BT_away_36 ?_
      refine R_iload_n C 0 d_BT_away_39 rfl rfl ?_
      exact R_iret C rfl d_BT_away_40
    · skip
      refine R_if_eq C d_BT_away_21 (tgt := 28) (by decide) ?_ ?_
      · skip
        refine R_iconst C d_BT_away_28 (v := 0) (by decide +kernel) ?_
        exact R_sub [0, 1, 2] rfl (hK8 0)
      · skip
        refine R_iconst C d_BT_away_24 (v := 1) (by decide +kernel) ?_
        refine R_goto C d_BT_away_25 (tgt := 29) (by decide) ?_
        exact R_sub [0, 1, 2] rfl (hK8 1)
  · skip
    refine R_iconst C d_BT_away_11 (v := (-1)) (by decide +kernel) ?_
    exact R_iret C rfl d_BT_away_12
theorem c_BT_away {q : QT} (hg : GOk sdX q) {a1 : Int32} {a2 : Int32} {μ : Mm} {ν : Ml} {o : Int32 × Mm} (ho : F_BT_away a1 a2 μ = some o) : Ct sdX q y_BT_away prog_1_method_5_code 4 (some (FieldType.int)) 2 [.ref (q.2.2.1 0), .int a1, .int a2] μ ν ((φIm ν) o).1 ((φIm ν) o).2.1 ((φIm ν) o).2.2 := Ct_of rfl hg (fun z C => w_BT_away C) (Nat.le_of_ble_eq_true rfl) ho
def F_Seat_becomes (this : Nat) (a1 : Nat) (μ : Mm) : Option (Mm) := lt_ (up2 μ this 1 (μ a1 1)) fun μ1 => lt_ (up2 μ1 this 2 (μ1 a1 2)) fun μ2 => lt_ (up2 μ2 this 3 (μ2 a1 3)) fun μ3 => lt_ (up2 μ3 this 4 (μ3 a1 4)) fun μ4 => lt_ (up2 μ4 this 5 (μ4 a1 5)) fun μ5 => lt_ (up2 μ5 this 6 (μ5 a1 6)) fun μ6 => lt_ (up2 μ6 this 7 (μ6 a1 7)) fun μ7 => lt_ (up2 μ7 this 8 (μ7 a1 8)) fun μ8 => (cpI μ8 (a1 + 1) 6 0 (this + 1) 6 0 6).bind fun μ9 => (cpI μ9 (a1 + 2) 6 0 (this + 2) 6 0 6).bind fun μ10 => (cpI μ10 (a1 + 3) 6 0 (this + 3) 6 0 6).bind fun μ11 => (cpI μ11 (a1 + 4) 6 0 (this + 4) 6 0 6).bind fun μ12 => (cpI μ12 (a1 + 5) 24 0 (this + 5) 24 0 24).bind fun μ13 => (cpI μ13 (a1 + 6) 36 0 (this + 6) 36 0 36).bind fun μ14 => (F_Rows_becomes (this + 7) (a1 + 7) μ14).bind fun μ15 => (F_Rows_becomes (this + 10) (a1 + 10) μ15).bind fun μ17 => (F_Rows_becomes (this + 13) (a1 + 13) μ17).bind fun μ19 => some μ19
theorem d_Seat_becomes_0 : decode prog_7_method_2_code 0 = .ok (.aload_n 0, 1) := by decide +kernel
theorem d_Seat_becomes_1 : decode prog_7_method_2_code 1 = .ok (.aload_n 1, 1) := by decide +kernel
theorem d_Seat_becomes_8 : decode prog_7_method_2_code 8 = .ok (.aload_n 0, 1) := by decide +kernel
theorem d_Seat_becomes_9 : decode prog_7_method_2_code 9 = .ok (.aload_n 1, 1) := by decide +kernel
theorem d_Seat_becomes_16 : decode prog_7_method_2_code 16 = .ok (.aload_n 0, 1) := by decide +kernel
theorem d_Seat_becomes_17 : decode prog_7_method_2_code 17 = .ok (.aload_n 1, 1) := by decide +kernel
theorem d_Seat_becomes_24 : decode prog_7_method_2_code 24 = .ok (.aload_n 0, 1) := by decide +kernel
theorem d_Seat_becomes_25 : decode prog_7_method_2_code 25 = .ok (.aload_n 1, 1) := by decide +kernel
theorem d_Seat_becomes_32 : decode prog_7_method_2_code 32 = .ok (.aload_n 0, 1) := by decide +kernel
theorem d_Seat_becomes_33 : decode prog_7_method_2_code 33 = .ok (.aload_n 1, 1) := by decide +kernel
theorem d_Seat_becomes_40 : decode prog_7_method_2_code 40 = .ok (.aload_n 0, 1) := by decide +kernel
theorem d_Seat_becomes_41 : decode prog_7_method_2_code 41 = .ok (.aload_n 1, 1) := by decide +kernel
theorem d_Seat_becomes_48 : decode prog_7_method_2_code 48 = .ok (.aload_n 0, 1) := by decide +kernel
theorem d_Seat_becomes_49 : decode prog_7_method_2_code 49 = .ok (.aload_n 1, 1) := by decide +kernel
theorem d_Seat_becomes_56 : decode prog_7_method_2_code 56 = .ok (.aload_n 0, 1) := by decide +kernel
theorem d_Seat_becomes_57 : decode prog_7_method_2_code 57 = .ok (.aload_n 1, 1) := by decide +kernel
theorem d_Seat_becomes_64 : decode prog_7_method_2_code 64 = .ok (.aload_n 1, 1) := by decide +kernel
theorem d_Seat_becomes_68 : decode prog_7_method_2_code 68 = .ok (.iconst 0, 1) := by decide +kernel
theorem d_Seat_becomes_69 : decode prog_7_method_2_code 69 = .ok (.aload_n 0, 1) := by decide +kernel
theorem d_Seat_becomes_73 : decode prog_7_method_2_code 73 = .ok (.iconst 0, 1) := by decide +kernel
theorem d_Seat_becomes_74 : decode prog_7_method_2_code 74 = .ok (.bipush 6, 2) := by decide +kernel
theorem d_Seat_becomes_76 : decode prog_7_method_2_code 76 = .ok (.invokestatic 74, 3) := by decide +kernel
theorem d_Seat_becomes_79 : decode prog_7_method_2_code 79 = .ok (.aload_n 1, 1) := by decide +kernel
theorem d_Seat_becomes_83 : decode prog_7_method_2_code 83 = .ok (.iconst 0, 1) := by decide +kernel
theorem d_Seat_becomes_84 : decode prog_7_method_2_code 84 = .ok (.aload_n 0, 1) := by decide +kernel
theorem d_Seat_becomes_88 : decode prog_7_method_2_code 88 = .ok (.iconst 0, 1) := by decide +kernel
theorem d_Seat_becomes_89 : decode prog_7_method_2_code 89 = .ok (.bipush 6, 2) := by decide +kernel
theorem d_Seat_becomes_91 : decode prog_7_method_2_code 91 = .ok (.invokestatic 74, 3) := by decide +kernel
theorem d_Seat_becomes_94 : decode prog_7_method_2_code 94 = .ok (.aload_n 1, 1) := by decide +kernel
theorem d_Seat_becomes_98 : decode prog_7_method_2_code 98 = .ok (.iconst 0, 1) := by decide +kernel
theorem d_Seat_becomes_99 : decode prog_7_method_2_code 99 = .ok (.aload_n 0, 1) := by decide +kernel
theorem d_Seat_becomes_103 : decode prog_7_method_2_code 103 = .ok (.iconst 0, 1) := by decide +kernel
theorem d_Seat_becomes_104 : decode prog_7_method_2_code 104 = .ok (.bipush 6, 2) := by decide +kernel
theorem d_Seat_becomes_106 : decode prog_7_method_2_code 106 = .ok (.invokestatic 74, 3) := by decide +kernel
theorem d_Seat_becomes_109 : decode prog_7_method_2_code 109 = .ok (.aload_n 1, 1) := by decide +kernel
theorem d_Seat_becomes_113 : decode prog_7_method_2_code 113 = .ok (.iconst 0, 1) := by decide +kernel
theorem d_Seat_becomes_114 : decode prog_7_method_2_code 114 = .ok (.aload_n 0, 1) := by decide +kernel
theorem d_Seat_becomes_118 : decode prog_7_method_2_code 118 = .ok (.iconst 0, 1) := by decide +kernel
theorem d_Seat_becomes_119 : decode prog_7_method_2_code 119 = .ok (.bipush 6, 2) := by decide +kernel
theorem d_Seat_becomes_121 : decode prog_7_method_2_code 121 = .ok (.invokestatic 74, 3) := by decide +kernel
theorem d_Seat_becomes_124 : decode prog_7_method_2_code 124 = .ok (.aload_n 1, 1) := by decide +kernel
theorem d_Seat_becomes_128 : decode prog_7_method_2_code 128 = .ok (.iconst 0, 1) := by decide +kernel
theorem d_Seat_becomes_129 : decode prog_7_method_2_code 129 = .ok (.aload_n 0, 1) := by decide +kernel
theorem d_Seat_becomes_133 : decode prog_7_method_2_code 133 = .ok (.iconst 0, 1) := by decide +kernel
theorem d_Seat_becomes_134 : decode prog_7_method_2_code 134 = .ok (.bipush 24, 2) := by decide +kernel
theorem d_Seat_becomes_136 : decode prog_7_method_2_code 136 = .ok (.invokestatic 74, 3) := by decide +kernel
theorem d_Seat_becomes_139 : decode prog_7_method_2_code 139 = .ok (.aload_n 1, 1) := by decide +kernel
theorem d_Seat_becomes_143 : decode prog_7_method_2_code 143 = .ok (.iconst 0, 1) := by decide +kernel
theorem d_Seat_becomes_144 : decode prog_7_method_2_code 144 = .ok (.aload_n 0, 1) := by decide +kernel
theorem d_Seat_becomes_148 : decode prog_7_method_2_code 148 = .ok (.iconst 0, 1) := by decide +kernel
theorem d_Seat_becomes_149 : decode prog_7_method_2_code 149 = .ok (.bipush 36, 2) := by decide +kernel
theorem d_Seat_becomes_151 : decode prog_7_method_2_code 151 = .ok (.invokestatic 74, 3) := by decide +kernel
theorem d_Seat_becomes_154 : decode prog_7_method_2_code 154 = .ok (.aload_n 0, 1) := by decide +kernel
theorem d_Seat_becomes_158 : decode prog_7_method_2_code 158 = .ok (.aload_n 1, 1) := by decide +kernel
theorem d_Seat_becomes_162 : decode prog_7_method_2_code 162 = .ok (.invokevirtual 80, 3) := by decide +kernel
theorem d_Seat_becomes_165 : decode prog_7_method_2_code 165 = .ok (.aload_n 0, 1) := by decide +kernel
theorem d_Seat_becomes_169 : decode prog_7_method_2_code 169 = .ok (.aload_n 1, 1) := by decide +kernel
theorem d_Seat_becomes_173 : decode prog_7_method_2_code 173 = .ok (.invokevirtual 80, 3) := by decide +kernel
theorem d_Seat_becomes_176 : decode prog_7_method_2_code 176 = .ok (.aload_n 0, 1) := by decide +kernel
theorem d_Seat_becomes_180 : decode prog_7_method_2_code 180 = .ok (.aload_n 1, 1) := by decide +kernel
theorem d_Seat_becomes_184 : decode prog_7_method_2_code 184 = .ok (.invokevirtual 80, 3) := by decide +kernel
theorem d_Seat_becomes_187 : decode prog_7_method_2_code 187 = .ok (.return_, 1) := by decide +kernel
theorem d_Seat_becomes_181 : decode prog_7_method_2_code 181 = .ok (.getfield 52, 3) := by decide +kernel
theorem d_Seat_becomes_177 : decode prog_7_method_2_code 177 = .ok (.getfield 52, 3) := by decide +kernel
theorem d_Seat_becomes_170 : decode prog_7_method_2_code 170 = .ok (.getfield 49, 3) := by decide +kernel
theorem d_Seat_becomes_166 : decode prog_7_method_2_code 166 = .ok (.getfield 49, 3) := by decide +kernel
theorem d_Seat_becomes_159 : decode prog_7_method_2_code 159 = .ok (.getfield 45, 3) := by decide +kernel
theorem d_Seat_becomes_155 : decode prog_7_method_2_code 155 = .ok (.getfield 45, 3) := by decide +kernel
theorem d_Seat_becomes_145 : decode prog_7_method_2_code 145 = .ok (.getfield 37, 3) := by decide +kernel
theorem d_Seat_becomes_140 : decode prog_7_method_2_code 140 = .ok (.getfield 37, 3) := by decide +kernel
theorem d_Seat_becomes_130 : decode prog_7_method_2_code 130 = .ok (.getfield 34, 3) := by decide +kernel
theorem d_Seat_becomes_125 : decode prog_7_method_2_code 125 = .ok (.getfield 34, 3) := by decide +kernel
theorem d_Seat_becomes_115 : decode prog_7_method_2_code 115 = .ok (.getfield 31, 3) := by decide +kernel
theorem d_Seat_becomes_110 : decode prog_7_method_2_code 110 = .ok (.getfield 31, 3) := by decide +kernel
theorem d_Seat_becomes_100 : decode prog_7_method_2_code 100 = .ok (.getfield 28, 3) := by decide +kernel
theorem d_Seat_becomes_95 : decode prog_7_method_2_code 95 = .ok (.getfield 28, 3) := by decide +kernel
theorem d_Seat_becomes_85 : decode prog_7_method_2_code 85 = .ok (.getfield 25, 3) := by decide +kernel
theorem d_Seat_becomes_80 : decode prog_7_method_2_code 80 = .ok (.getfield 25, 3) := by decide +kernel
theorem d_Seat_becomes_70 : decode prog_7_method_2_code 70 = .ok (.getfield 21, 3) := by decide +kernel
theorem d_Seat_becomes_65 : decode prog_7_method_2_code 65 = .ok (.getfield 21, 3) := by decide +kernel
theorem d_Seat_becomes_58 : decode prog_7_method_2_code 58 = .ok (.getfield 71, 3) := by decide +kernel
theorem d_Seat_becomes_50 : decode prog_7_method_2_code 50 = .ok (.getfield 68, 3) := by decide +kernel
theorem d_Seat_becomes_42 : decode prog_7_method_2_code 42 = .ok (.getfield 18, 3) := by decide +kernel
theorem d_Seat_becomes_34 : decode prog_7_method_2_code 34 = .ok (.getfield 15, 3) := by decide +kernel
theorem d_Seat_becomes_26 : decode prog_7_method_2_code 26 = .ok (.getfield 9, 3) := by decide +kernel
theorem d_Seat_becomes_18 : decode prog_7_method_2_code 18 = .ok (.getfield 65, 3) := by decide +kernel
theorem d_Seat_becomes_10 : decode prog_7_method_2_code 10 = .ok (.getfield 62, 3) := by decide +kernel
theorem d_Seat_becomes_2 : decode prog_7_method_2_code 2 = .ok (.getfield 59, 3) := by decide +kernel
theorem d_Seat_becomes_5 : decode prog_7_method_2_code 5 = .ok (.putfield 59, 3) := by decide +kernel
theorem d_Seat_becomes_13 : decode prog_7_method_2_code 13 = .ok (.putfield 62, 3) := by decide +kernel
theorem d_Seat_becomes_21 : decode prog_7_method_2_code 21 = .ok (.putfield 65, 3) := by decide +kernel
theorem d_Seat_becomes_29 : decode prog_7_method_2_code 29 = .ok (.putfield 9, 3) := by decide +kernel
theorem d_Seat_becomes_37 : decode prog_7_method_2_code 37 = .ok (.putfield 15, 3) := by decide +kernel
theorem d_Seat_becomes_45 : decode prog_7_method_2_code 45 = .ok (.putfield 18, 3) := by decide +kernel
theorem d_Seat_becomes_53 : decode prog_7_method_2_code 53 = .ok (.putfield 68, 3) := by decide +kernel
theorem d_Seat_becomes_61 : decode prog_7_method_2_code 61 = .ok (.putfield 71, 3) := by decide +kernel
set_option maxRecDepth 10000 in
set_option maxHeartbeats 4000000 in
theorem w_Seat_becomes {q : QT} {z : ZT} {this : Nat} {a1 : Nat} {μ : Mm} {ν : Ml} (C : Ctx sdX q z prog_7_method_2_code "BesideTom$Seating" 2 2 none) (h_this : this ∈ seats) (h_a1 : a1 ∈ seats) : R sdX q z 2 (φVm ν) (F_Seat_becomes this a1 μ) μ ν 0 [(0, .ref (q.2.2.1 this)), (1, .ref (q.2.2.1 a1))] [] := by
  unfold F_Seat_becomes
  refine R_aload_n C 0 d_Seat_becomes_0 rfl rfl ?_
  refine R_aload_n C 1 d_Seat_becomes_1 rfl rfl ?_
  refine gf_Seat_many C h_a1 fl_Seat_59 d_Seat_becomes_2 ?_
  refine pf_Seat_many C h_this fl_Seat_59 d_Seat_becomes_5 (fun μ1 => ?_)
  refine R_aload_n C 0 d_Seat_becomes_8 rfl rfl ?_
  refine R_aload_n C 1 d_Seat_becomes_9 rfl rfl ?_
  refine gf_Seat_week C h_a1 fl_Seat_62 d_Seat_becomes_10 ?_
  refine pf_Seat_week C h_this fl_Seat_62 d_Seat_becomes_13 (fun μ2 => ?_)
  refine R_aload_n C 0 d_Seat_becomes_16 rfl rfl ?_
  refine R_aload_n C 1 d_Seat_becomes_17 rfl rfl ?_
  refine gf_Seat_wear C h_a1 fl_Seat_65 d_Seat_becomes_18 ?_
  refine pf_Seat_wear C h_this fl_Seat_65 d_Seat_becomes_21 (fun μ3 => ?_)
  refine R_aload_n C 0 d_Seat_becomes_24 rfl rfl ?_
  refine R_aload_n C 1 d_Seat_becomes_25 rfl rfl ?_
  refine gf_Seat_wears C h_a1 fl_Seat_9 d_Seat_becomes_26 ?_
  refine pf_Seat_wears C h_this fl_Seat_9 d_Seat_becomes_29 (fun μ4 => ?_)
  refine R_aload_n C 0 d_Seat_becomes_32 rfl rfl ?_
  refine R_aload_n C 1 d_Seat_becomes_33 rfl rfl ?_
  refine gf_Seat_cost C h_a1 fl_Seat_15 d_Seat_becomes_34 ?_
  refine pf_Seat_cost C h_this fl_Seat_15 d_Seat_becomes_37 (fun μ5 => ?_)
  refine R_aload_n C 0 d_Seat_becomes_40 rfl rfl ?_
  refine R_aload_n C 1 d_Seat_becomes_41 rfl rfl ?_
  refine gf_Seat_held C h_a1 fl_Seat_18 d_Seat_becomes_42 ?_
  refine pf_Seat_held C h_this fl_Seat_18 d_Seat_becomes_45 (fun μ6 => ?_)
  refine R_aload_n C 0 d_Seat_becomes_48 rfl rfl ?_
  refine R_aload_n C 1 d_Seat_becomes_49 rfl rfl ?_
  refine gf_Seat_away C h_a1 fl_Seat_68 d_Seat_becomes_50 ?_
  refine pf_Seat_away C h_this fl_Seat_68 d_Seat_becomes_53 (fun μ7 => ?_)
  refine R_aload_n C 0 d_Seat_becomes_56 rfl rfl ?_
  refine R_aload_n C 1 d_Seat_becomes_57 rfl rfl ?_
  refine gf_Seat_corks C h_a1 fl_Seat_71 d_Seat_becomes_58 ?_
  refine pf_Seat_corks C h_this fl_Seat_71 d_Seat_becomes_61 (fun μ8 => ?_)
  refine R_aload_n C 1 d_Seat_becomes_64 rfl rfl ?_
  refine gf_Seat_kind C h_a1 fl_Seat_21 d_Seat_becomes_65 ?_
  refine R_iconst C d_Seat_becomes_68 (v := 0) (by decide +kernel) ?_
  refine R_aload_n C 0 d_Seat_becomes_69 rfl rfl ?_
  refine gf_Seat_kind C h_this fl_Seat_21 d_Seat_becomes_70 ?_
  refine R_iconst C d_Seat_becomes_73 (v := 0) (by decide +kernel) ?_
  refine R_bipush C d_Seat_becomes_74 (v := 6) (by decide +kernel) ?_
  refine R_copyi C ml_Seat_74 nt_Sys_arraycopy sm_Sys_arraycopy in_Sys (by decide) (Nat.le_of_ble_eq_true rfl) (se_1 h_a1) (se_1 h_this) (fun h => sc_1 h_a1 q h _) (fun h => sc_1 h_this q h _) d_Seat_becomes_76 (fun μ9 => ?_)
  refine R_aload_n C 1 d_Seat_becomes_79 rfl rfl ?_
  refine gf_Seat_v C h_a1 fl_Seat_25 d_Seat_becomes_80 ?_
  refine R_iconst C d_Seat_becomes_83 (v := 0) (by decide +kernel) ?_
  refine R_aload_n C 0 d_Seat_becomes_84 rfl rfl ?_
  refine gf_Seat_v C h_this fl_Seat_25 d_Seat_becomes_85 ?_
  refine R_iconst C d_Seat_becomes_88 (v := 0) (by decide +kernel) ?_
  refine R_bipush C d_Seat_becomes_89 (v := 6) (by decide +kernel) ?_
  refine R_copyi C ml_Seat_74 nt_Sys_arraycopy sm_Sys_arraycopy in_Sys (by decide) (Nat.le_of_ble_eq_true rfl) (se_2 h_a1) (se_2 h_this) (fun h => sc_2 h_a1 q h _) (fun h => sc_2 h_this q h _) d_Seat_becomes_91 (fun μ10 => ?_)
  refine R_aload_n C 1 d_Seat_becomes_94 rfl rfl ?_
  refine gf_Seat_desk C h_a1 fl_Seat_28 d_Seat_becomes_95 ?_
  refine R_iconst C d_Seat_becomes_98 (v := 0) (by decide +kernel) ?_
  refine R_aload_n C 0 d_Seat_becomes_99 rfl rfl ?_
  refine gf_Seat_desk C h_this fl_Seat_28 d_Seat_becomes_100 ?_
  refine R_iconst C d_Seat_becomes_103 (v := 0) (by decide +kernel) ?_
  refine R_bipush C d_Seat_becomes_104 (v := 6) (by decide +kernel) ?_
  refine R_copyi C ml_Seat_74 nt_Sys_arraycopy sm_Sys_arraycopy in_Sys (by decide) (Nat.le_of_ble_eq_true rfl) (se_3 h_a1) (se_3 h_this) (fun h => sc_3 h_a1 q h _) (fun h => sc_3 h_this q h _) d_Seat_becomes_106 (fun μ11 => ?_)
  refine R_aload_n C 1 d_Seat_becomes_109 rfl rfl ?_
  refine gf_Seat_knows C h_a1 fl_Seat_31 d_Seat_becomes_110 ?_
  refine R_iconst C d_Seat_becomes_113 (v := 0) (by decide +kernel) ?_
  refine R_aload_n C 0 d_Seat_becomes_114 rfl rfl ?_
  refine gf_Seat_knows C h_this fl_Seat_31 d_Seat_becomes_115 ?_
  refine R_iconst C d_Seat_becomes_118 (v := 0) (by decide +kernel) ?_
  refine R_bipush C d_Seat_becomes_119 (v := 6) (by decide +kernel) ?_
  refine R_copyi C ml_Seat_74 nt_Sys_arraycopy sm_Sys_arraycopy in_Sys (by decide) (Nat.le_of_ble_eq_true rfl) (se_4 h_a1) (se_4 h_this) (fun h => sc_4 h_a1 q h _) (fun h => sc_4 h_this q h _) d_Seat_becomes_121 (fun μ12 => ?_)
  refine R_aload_n C 1 d_Seat_becomes_124 rfl rfl ?_
  refine gf_Seat_lines C h_a1 fl_Seat_34 d_Seat_becomes_125 ?_
  refine R_iconst C d_Seat_becomes_128 (v := 0) (by decide +kernel) ?_
  refine R_aload_n C 0 d_Seat_becomes_129 rfl rfl ?_
  refine gf_Seat_lines C h_this fl_Seat_34 d_Seat_becomes_130 ?_
  refine R_iconst C d_Seat_becomes_133 (v := 0) (by decide +kernel) ?_
  refine R_bipush C d_Seat_becomes_134 (v := 24) (by decide +kernel) ?_
  refine R_copyi C ml_Seat_74 nt_Sys_arraycopy sm_Sys_arraycopy in_Sys (by decide) (Nat.le_of_ble_eq_true rfl) (se_5 h_a1) (se_5 h_this) (fun h => sc_5 h_a1 q h _) (fun h => sc_5 h_this q h _) d_Seat_becomes_136 (fun μ13 => ?_)
  refine R_aload_n C 1 d_Seat_becomes_139 rfl rfl ?_
  refine gf_Seat_mouths C h_a1 fl_Seat_37 d_Seat_becomes_140 ?_
  refine R_iconst C d_Seat_becomes_143 (v := 0) (by decide +kernel) ?_
  refine R_aload_n C 0 d_Seat_becomes_144 rfl rfl ?_
  refine gf_Seat_mouths C h_this fl_Seat_37 d_Seat_becomes_145 ?_
  refine R_iconst C d_Seat_becomes_148 (v := 0) (by decide +kernel) ?_
  refine R_bipush C d_Seat_becomes_149 (v := 36) (by decide +kernel) ?_
  refine R_copyi C ml_Seat_74 nt_Sys_arraycopy sm_Sys_arraycopy in_Sys (by decide) (Nat.le_of_ble_eq_true rfl) (se_6 h_a1) (se_6 h_this) (fun h => sc_6 h_a1 q h _) (fun h => sc_6 h_this q h _) d_Seat_becomes_151 (fun μ14 => ?_)
  refine R_aload_n C 0 d_Seat_becomes_154 rfl rfl ?_
  refine gf_Seat_heard C h_this fl_Seat_45 d_Seat_becomes_155 ?_
  refine R_aload_n C 1 d_Seat_becomes_158 rfl rfl ?_
  refine gf_Seat_heard C h_a1 fl_Seat_45 d_Seat_becomes_159 ?_
  refine R_bind (fun μ15 h16 => ?_)
  refine R_callV C (re_0 (sr_7 h_this)) (rc_0 (sr_7 h_this) q _ _) rfl cf_Rows_becomes rfl ml_Seat_80 im_Rows_becomes sl_Rows_Rows_becomes_Rows_becomes (c_Rows_becomes (gk C) (sr_7 h_this) (sr_7 h_a1) h16) (by decide) (by decide) rfl rfl (Nat.le_of_ble_eq_true rfl) d_Seat_becomes_162 ?_
  refine R_aload_n C 0 d_Seat_becomes_165 rfl rfl ?_
  refine gf_Seat_term C h_this fl_Seat_49 d_Seat_becomes_166 ?_
  refine R_aload_n C 1 d_Seat_becomes_169 rfl rfl ?_
  refine gf_Seat_term C h_a1 fl_Seat_49 d_Seat_becomes_170 ?_
  refine R_bind (fun μ17 h18 => ?_)
  refine R_callV C (re_0 (sr_10 h_this)) (rc_0 (sr_10 h_this) q _ _) rfl cf_Rows_becomes rfl ml_Seat_80 im_Rows_becomes sl_Rows_Rows_becomes_Rows_becomes (c_Rows_becomes (gk C) (sr_10 h_this) (sr_10 h_a1) h18) (by decide) (by decide) rfl rfl (Nat.le_of_ble_eq_true rfl) d_Seat_becomes_173 ?_
  refine R_aload_n C 0 d_Seat_becomes_176 rfl rfl ?_
  refine gf_Seat_book C h_this fl_Seat_52 d_Seat_becomes_177 ?_
  refine R_aload_n C 1 d_Seat_becomes_180 rfl rfl ?_
  refine gf_Seat_book C h_a1 fl_Seat_52 d_Seat_becomes_181 ?_
  refine R_bind (fun μ19 h20 => ?_)
  refine R_callV C (re_0 (sr_13 h_this)) (rc_0 (sr_13 h_this) q _ _) rfl cf_Rows_becomes rfl ml_Seat_80 im_Rows_becomes sl_Rows_Rows_becomes_Rows_becomes (c_Rows_becomes (gk C) (sr_13 h_this) (sr_13 h_a1) h20) (by decide) (by decide) rfl rfl (Nat.le_of_ble_eq_true rfl) d_Seat_becomes_184 ?_
  exact R_vret C rfl d_Seat_becomes_187
theorem c_Seat_becomes {q : QT} (hg : GOk sdX q) {this : Nat} {a1 : Nat} {μ : Mm} {ν : Ml} (h_this : this ∈ seats) (h_a1 : a1 ∈ seats) {o : Mm} (ho : F_Seat_becomes this a1 μ = some o) : Ct sdX q y_Seat_becomes prog_7_method_2_code 2 none 2 [.ref (q.2.2.1 this), .ref (q.2.2.1 a1)] μ ν ((φVm ν) o).1 ((φVm ν) o).2.1 ((φVm ν) o).2.2 := Ct_of rfl hg (fun z C => w_Seat_becomes C h_this h_a1) (Nat.le_of_ble_eq_true rfl) ho
def F_BT_book (a1 : Int32) (a2 : Int32) (μ : Mm) : Option (Int32 × Mm) := (if a1 = (-1) then (F_Rows_empties 53 μ).bind fun p_ => match p_ with | (v8, μ9) => some (v8, μ9) else (F_Seat_has 40 a1 μ).bind fun v1 => (if v1 = 0 then some ((-1), μ) else (F_BT_isDesk a2).bind fun v3 => (if v3 = 0 then some ((-1), μ) else (F_Rows_takes 53 a1 a2 μ).bind fun p_ => match p_ with | (v5, μ6) => some (v5, μ6))))
theorem d_BT_book_0 : decode prog_1_method_33_code 0 = .ok (.iload_n 1, 1) := by decide +kernel
theorem d_BT_book_1 : decode prog_1_method_33_code 1 = .ok (.iconst (-1), 1) := by decide +kernel
theorem d_BT_book_16 : decode prog_1_method_33_code 16 = .ok (.aload_n 0, 1) := by decide +kernel
theorem d_BT_book_20 : decode prog_1_method_33_code 20 = .ok (.iload_n 1, 1) := by decide +kernel
theorem d_BT_book_21 : decode prog_1_method_33_code 21 = .ok (.invokevirtual 92, 3) := by decide +kernel
theorem d_BT_book_34 : decode prog_1_method_33_code 34 = .ok (.iconst (-1), 1) := by decide +kernel
theorem d_BT_book_35 : decode prog_1_method_33_code 35 = .ok (.ireturn, 1) := by decide +kernel
theorem d_BT_book_27 : decode prog_1_method_33_code 27 = .ok (.iload_n 2, 1) := by decide +kernel
theorem d_BT_book_28 : decode prog_1_method_33_code 28 = .ok (.invokestatic 130, 3) := by decide +kernel
theorem d_BT_book_36 : decode prog_1_method_33_code 36 = .ok (.aload_n 0, 1) := by decide +kernel
theorem d_BT_book_43 : decode prog_1_method_33_code 43 = .ok (.iload_n 1, 1) := by decide +kernel
theorem d_BT_book_44 : decode prog_1_method_33_code 44 = .ok (.iload_n 2, 1) := by decide +kernel
theorem d_BT_book_45 : decode prog_1_method_33_code 45 = .ok (.invokevirtual 245, 3) := by decide +kernel
theorem d_BT_book_48 : decode prog_1_method_33_code 48 = .ok (.ireturn, 1) := by decide +kernel
theorem d_BT_book_40 : decode prog_1_method_33_code 40 = .ok (.getfield 273, 3) := by decide +kernel
theorem d_BT_book_37 : decode prog_1_method_33_code 37 = .ok (.getfield 52, 3) := by decide +kernel
theorem d_BT_book_31 : decode prog_1_method_33_code 31 = .ok (.ifCond .ne 5, 3) := by decide +kernel
theorem d_BT_book_24 : decode prog_1_method_33_code 24 = .ok (.ifCond .eq 10, 3) := by decide +kernel
theorem d_BT_book_17 : decode prog_1_method_33_code 17 = .ok (.getfield 52, 3) := by decide +kernel
theorem d_BT_book_5 : decode prog_1_method_33_code 5 = .ok (.aload_n 0, 1) := by decide +kernel
theorem d_BT_book_12 : decode prog_1_method_33_code 12 = .ok (.invokevirtual 240, 3) := by decide +kernel
theorem d_BT_book_15 : decode prog_1_method_33_code 15 = .ok (.ireturn, 1) := by decide +kernel
theorem d_BT_book_9 : decode prog_1_method_33_code 9 = .ok (.getfield 273, 3) := by decide +kernel
theorem d_BT_book_6 : decode prog_1_method_33_code 6 = .ok (.getfield 52, 3) := by decide +kernel
theorem d_BT_book_2 : decode prog_1_method_33_code 2 = .ok (.if_icmp .ne 14, 3) := by decide +kernel
set_option maxRecDepth 10000 in
set_option maxHeartbeats 4000000 in
theorem w_BT_book {q : QT} {z : ZT} {a1 : Int32} {a2 : Int32} {μ : Mm} {ν : Ml} (C : Ctx sdX q z prog_1_method_33_code "BesideTom" 3 2 (some (FieldType.int))) : R sdX q z 3 (φIm ν) (F_BT_book a1 a2 μ) μ ν 0 [(0, .ref (q.2.2.1 0)), (1, .int a1), (2, .int a2)] [] := by
  unfold F_BT_book
  refine R_iload_n C 1 d_BT_book_0 rfl rfl ?_
  refine R_iconst C d_BT_book_1 (v := (-1)) (by decide +kernel) ?_
  refine R_icmp_ne C d_BT_book_2 (tgt := 16) (by decide) ?_ ?_
  · skip
    refine R_aload_n C 0 d_BT_book_16 rfl rfl ?_
    refine gf_BT_now C fl_BT_52 d_BT_book_17 ?_
    refine R_iload_n C 1 d_BT_book_20 rfl rfl ?_
    refine R_bind (fun v1 h2 => ?_)
    refine R_callV C (se_0 s40) (sc_0 s40 q _ _) rfl cf_Seat_has rfl ml_BT_92 im_Seat_has sl_Seat_Seat_has_Seat_has (c_Seat_has (gk C) s40 h2) (by decide) (by decide) rfl rfl (Nat.le_of_ble_eq_true rfl) d_BT_book_21 ?_
    refine R_if_eq C d_BT_book_24 (tgt := 34) (by decide) ?_ ?_
    · skip
      refine R_iconst C d_BT_book_34 (v := (-1)) (by decide +kernel) ?_
      exact R_iret C rfl d_BT_book_35
    · skip
      refine R_iload_n C 2 d_BT_book_27 rfl rfl ?_
      refine R_bind (fun v3 h4 => ?_)
      refine R_callS C cf_BT_isDesk ml_BT_130 sm_BT_isDesk (c_BT_isDesk (gk C) h4) (by decide) (by decide) rfl rfl (Nat.le_of_ble_eq_true rfl) d_BT_book_28 ?_
      refine R_if_ne C d_BT_book_31 (tgt := 36) (by decide) ?_ ?_
      · skip
        refine R_aload_n C 0 d_BT_book_36 rfl rfl ?_
        refine gf_BT_now C fl_BT_52 d_BT_book_37 ?_
        refine gf_Seat_book C s40 fl_BT_273 d_BT_book_40 ?_
        refine R_iload_n C 1 d_BT_book_43 rfl rfl ?_
        refine R_iload_n C 2 d_BT_book_44 rfl rfl ?_
        refine R_bind (fun r_ h7 => ?_)
        obtain ⟨v5, μ6⟩ := r_
        refine R_callV C (re_0 (sr_13 s40)) (rc_0 (sr_13 s40) q _ _) rfl cf_Rows_takes rfl ml_BT_245 im_Rows_takes sl_Rows_Rows_takes_Rows_takes (c_Rows_takes (gk C) (sr_13 s40) h7) (by decide) (by decide) rfl rfl (Nat.le_of_ble_eq_true rfl) d_BT_book_45 ?_
        exact R_iret C rfl d_BT_book_48
      · skip
        refine R_iconst C d_BT_book_34 (v := (-1)) (by decide +kernel) ?_
        exact R_iret C rfl d_BT_book_35
  · skip
    refine R_aload_n C 0 d_BT_book_5 rfl rfl ?_
    refine gf_BT_now C fl_BT_52 d_BT_book_6 ?_
    refine gf_Seat_book C s40 fl_BT_273 d_BT_book_9 ?_
    refine R_bind (fun r_ h10 => ?_)
    obtain ⟨v8, μ9⟩ := r_
    refine R_callV C (re_0 (sr_13 s40)) (rc_0 (sr_13 s40) q _ _) rfl cf_Rows_empties rfl ml_BT_240 im_Rows_empties sl_Rows_Rows_empties_Rows_empties (c_Rows_empties (gk C) (sr_13 s40) h10) (by decide) (by decide) rfl rfl (Nat.le_of_ble_eq_true rfl) d_BT_book_12 ?_
    exact R_iret C rfl d_BT_book_15
theorem c_BT_book {q : QT} (hg : GOk sdX q) {a1 : Int32} {a2 : Int32} {μ : Mm} {ν : Ml} {o : Int32 × Mm} (ho : F_BT_book a1 a2 μ = some o) : Ct sdX q y_BT_book prog_1_method_33_code 3 (some (FieldType.int)) 2 [.ref (q.2.2.1 0), .int a1, .int a2] μ ν ((φIm ν) o).1 ((φIm ν) o).2.1 ((φIm ν) o).2.2 := Ct_of rfl hg (fun z C => w_BT_book C) (Nat.le_of_ble_eq_true rfl) ho
def F_Cork_isUnder (this : Nat) (a1 : Int32) : Option (Int32) := jn (α := Unit) (fun K3 => (if a1 = 5 then K3 () else (F_Quiet_isUnder this a1).bind fun v1 => (if v1 = 0 then some 0 else K3 ()))) (fun (_ : Unit) => some 1)
theorem d_Cork_isUnder_0 : decode prog_2_method_2_code 0 = .ok (.iload_n 1, 1) := by decide +kernel
theorem d_Cork_isUnder_1 : decode prog_2_method_2_code 1 = .ok (.iconst 5, 1) := by decide +kernel
theorem d_Cork_isUnder_5 : decode prog_2_method_2_code 5 = .ok (.aload_n 0, 1) := by decide +kernel
theorem d_Cork_isUnder_6 : decode prog_2_method_2_code 6 = .ok (.iload_n 1, 1) := by decide +kernel
theorem d_Cork_isUnder_7 : decode prog_2_method_2_code 7 = .ok (.invokespecial 9, 3) := by decide +kernel
theorem d_Cork_isUnder_17 : decode prog_2_method_2_code 17 = .ok (.iconst 0, 1) := by decide +kernel
theorem d_Cork_isUnder_18 : decode prog_2_method_2_code 18 = .ok (.ireturn, 1) := by decide +kernel
theorem d_Cork_isUnder_10 : decode prog_2_method_2_code 10 = .ok (.ifCond .eq 7, 3) := by decide +kernel
theorem d_Cork_isUnder_2 : decode prog_2_method_2_code 2 = .ok (.if_icmp .eq 11, 3) := by decide +kernel
theorem d_Cork_isUnder_13 : decode prog_2_method_2_code 13 = .ok (.iconst 1, 1) := by decide +kernel
theorem d_Cork_isUnder_14 : decode prog_2_method_2_code 14 = .ok (.goto 4, 3) := by decide +kernel
set_option maxRecDepth 10000 in
set_option maxHeartbeats 4000000 in
theorem w_Cork_isUnder {q : QT} {z : ZT} {this : Nat} {a1 : Int32} {μ : Mm} {ν : Ml} (C : Ctx sdX q z prog_2_method_2_code "BesideTom$CorkKind" 2 2 (some (FieldType.boolean))) (h_this : this ∈ kd_Cork) : R sdX q z 2 (φI μ ν) (F_Cork_isUnder this a1) μ ν 0 [(0, .ref (q.2.2.1 this)), (1, .int a1)] [] := by
  unfold F_Cork_isUnder
  refine R_iload_n C 1 d_Cork_isUnder_0 rfl rfl ?_
  refine R_iconst C d_Cork_isUnder_1 (v := 5) (by decide +kernel) ?_
  refine R_jn (fun K3 => R sdX q z 2 (φI μ ν) (K3 ()) μ ν 13 [] []) ?_ (fun K3 hK3 => ?_)
  · skip
    refine R_iconst C d_Cork_isUnder_13 (v := 1) (by decide +kernel) ?_
    refine R_goto C d_Cork_isUnder_14 (tgt := 18) (by decide) ?_
    exact R_zret C (by decide) rfl d_Cork_isUnder_18
  · skip
    refine R_icmp_eq C d_Cork_isUnder_2 (tgt := 13) (by decide) ?_ ?_
    · skip
      exact R_sub [] rfl (hK3)
    · skip
      refine R_aload_n C 0 d_Cork_isUnder_5 rfl rfl ?_
      refine R_iload_n C 1 d_Cork_isUnder_6 rfl rfl ?_
      refine R_bind (fun v1 h2 => ?_)
      obtain ⟨ci_, Cn_, T_, N_, hq1_, hq2_⟩ := kc_0 (kdup (A := kd_Cork) (by decide) h_this) q (μ this) (ν this)
      refine R_callSU C (ke_0 (kdup (A := kd_Cork) (by decide) h_this)) hq1_ hq2_ cf_Quiet_isUnder (by decide) ml_Cork_9 sa_Quiet_Quiet_isUnder su_Cork_Quiet im_Quiet_isUnder (c_Quiet_isUnder (gk C) (kdup (A := kd_Cork) (by decide) h_this) h2) (by decide) (by decide) rfl rfl (Nat.le_of_ble_eq_true rfl) d_Cork_isUnder_7 ?_
      refine R_if_eq C d_Cork_isUnder_10 (tgt := 17) (by decide) ?_ ?_
      · skip
        refine R_iconst C d_Cork_isUnder_17 (v := 0) (by decide +kernel) ?_
        exact R_zret C (by decide) rfl d_Cork_isUnder_18
      · skip
        exact R_sub [] rfl (hK3)
theorem c_Cork_isUnder {q : QT} (hg : GOk sdX q) {this : Nat} {a1 : Int32} {μ : Mm} {ν : Ml} (h_this : this ∈ kd_Cork) {o : Int32} (ho : F_Cork_isUnder this a1 = some o) : Ct sdX q y_Cork_isUnder prog_2_method_2_code 2 (some (FieldType.boolean)) 2 [.ref (q.2.2.1 this), .int a1] μ ν ((φI μ ν) o).1 ((φI μ ν) o).2.1 ((φI μ ν) o).2.2 := Ct_of rfl hg (fun z C => w_Cork_isUnder C h_this) (Nat.le_of_ble_eq_true rfl) ho
def F_Told_isUnder (this : Nat) (a1 : Int32) : Option (Int32) := jn (α := Unit) (fun K3 => (if a1 = 6 then K3 () else (F_Short_isUnder this a1).bind fun v1 => (if v1 = 0 then some 0 else K3 ()))) (fun (_ : Unit) => some 1)
theorem d_Told_isUnder_0 : decode prog_10_method_2_code 0 = .ok (.iload_n 1, 1) := by decide +kernel
theorem d_Told_isUnder_1 : decode prog_10_method_2_code 1 = .ok (.bipush 6, 2) := by decide +kernel
theorem d_Told_isUnder_6 : decode prog_10_method_2_code 6 = .ok (.aload_n 0, 1) := by decide +kernel
theorem d_Told_isUnder_7 : decode prog_10_method_2_code 7 = .ok (.iload_n 1, 1) := by decide +kernel
theorem d_Told_isUnder_8 : decode prog_10_method_2_code 8 = .ok (.invokespecial 9, 3) := by decide +kernel
theorem d_Told_isUnder_18 : decode prog_10_method_2_code 18 = .ok (.iconst 0, 1) := by decide +kernel
theorem d_Told_isUnder_19 : decode prog_10_method_2_code 19 = .ok (.ireturn, 1) := by decide +kernel
theorem d_Told_isUnder_11 : decode prog_10_method_2_code 11 = .ok (.ifCond .eq 7, 3) := by decide +kernel
theorem d_Told_isUnder_3 : decode prog_10_method_2_code 3 = .ok (.if_icmp .eq 11, 3) := by decide +kernel
theorem d_Told_isUnder_14 : decode prog_10_method_2_code 14 = .ok (.iconst 1, 1) := by decide +kernel
theorem d_Told_isUnder_15 : decode prog_10_method_2_code 15 = .ok (.goto 4, 3) := by decide +kernel
set_option maxRecDepth 10000 in
set_option maxHeartbeats 4000000 in
theorem w_Told_isUnder {q : QT} {z : ZT} {this : Nat} {a1 : Int32} {μ : Mm} {ν : Ml} (C : Ctx sdX q z prog_10_method_2_code "BesideTom$ToldKind" 2 2 (some (FieldType.boolean))) (h_this : this ∈ kd_Told) : R sdX q z 2 (φI μ ν) (F_Told_isUnder this a1) μ ν 0 [(0, .ref (q.2.2.1 this)), (1, .int a1)] [] := by
  unfold F_Told_isUnder
  refine R_iload_n C 1 d_Told_isUnder_0 rfl rfl ?_
  refine R_bipush C d_Told_isUnder_1 (v := 6) (by decide +kernel) ?_
  refine R_jn (fun K3 => R sdX q z 2 (φI μ ν) (K3 ()) μ ν 14 [] []) ?_ (fun K3 hK3 => ?_)
  · skip
    refine R_iconst C d_Told_isUnder_14 (v := 1) (by decide +kernel) ?_
    refine R_goto C d_Told_isUnder_15 (tgt := 19) (by decide) ?_
    exact R_zret C (by decide) rfl d_Told_isUnder_19
  · skip
    refine R_icmp_eq C d_Told_isUnder_3 (tgt := 14) (by decide) ?_ ?_
    · skip
      exact R_sub [] rfl (hK3)
    · skip
      refine R_aload_n C 0 d_Told_isUnder_6 rfl rfl ?_
      refine R_iload_n C 1 d_Told_isUnder_7 rfl rfl ?_
      refine R_bind (fun v1 h2 => ?_)
      obtain ⟨ci_, Cn_, T_, N_, hq1_, hq2_⟩ := kc_0 (kdup (A := kd_Told) (by decide) h_this) q (μ this) (ν this)
      refine R_callSU C (ke_0 (kdup (A := kd_Told) (by decide) h_this)) hq1_ hq2_ cf_Short_isUnder (by decide) ml_Told_9 sa_Short_Short_isUnder su_Told_Short im_Short_isUnder (c_Short_isUnder (gk C) (kdup (A := kd_Told) (by decide) h_this) h2) (by decide) (by decide) rfl rfl (Nat.le_of_ble_eq_true rfl) d_Told_isUnder_8 ?_
      refine R_if_eq C d_Told_isUnder_11 (tgt := 18) (by decide) ?_ ?_
      · skip
        refine R_iconst C d_Told_isUnder_18 (v := 0) (by decide +kernel) ?_
        exact R_zret C (by decide) rfl d_Told_isUnder_19
      · skip
        exact R_sub [] rfl (hK3)
theorem c_Told_isUnder {q : QT} (hg : GOk sdX q) {this : Nat} {a1 : Int32} {μ : Mm} {ν : Ml} (h_this : this ∈ kd_Told) {o : Int32} (ho : F_Told_isUnder this a1 = some o) : Ct sdX q y_Told_isUnder prog_10_method_2_code 2 (some (FieldType.boolean)) 2 [.ref (q.2.2.1 this), .int a1] μ ν ((φI μ ν) o).1 ((φI μ ν) o).2.1 ((φI μ ν) o).2.2 := Ct_of rfl hg (fun z C => w_Told_isUnder C h_this) (Nat.le_of_ble_eq_true rfl) ho
def F_Tom_isUnder (this : Nat) (a1 : Int32) : Option (Int32) := jn (α := Unit) (fun K3 => (if a1 = 4 then K3 () else (F_Talk_isUnder this a1).bind fun v1 => (if v1 = 0 then some 0 else K3 ()))) (fun (_ : Unit) => some 1)
theorem d_Tom_isUnder_0 : decode prog_11_method_2_code 0 = .ok (.iload_n 1, 1) := by decide +kernel
theorem d_Tom_isUnder_1 : decode prog_11_method_2_code 1 = .ok (.iconst 4, 1) := by decide +kernel
theorem d_Tom_isUnder_5 : decode prog_11_method_2_code 5 = .ok (.aload_n 0, 1) := by decide +kernel
theorem d_Tom_isUnder_6 : decode prog_11_method_2_code 6 = .ok (.iload_n 1, 1) := by decide +kernel
theorem d_Tom_isUnder_7 : decode prog_11_method_2_code 7 = .ok (.invokespecial 7, 3) := by decide +kernel
theorem d_Tom_isUnder_17 : decode prog_11_method_2_code 17 = .ok (.iconst 0, 1) := by decide +kernel
theorem d_Tom_isUnder_18 : decode prog_11_method_2_code 18 = .ok (.ireturn, 1) := by decide +kernel
theorem d_Tom_isUnder_10 : decode prog_11_method_2_code 10 = .ok (.ifCond .eq 7, 3) := by decide +kernel
theorem d_Tom_isUnder_2 : decode prog_11_method_2_code 2 = .ok (.if_icmp .eq 11, 3) := by decide +kernel
theorem d_Tom_isUnder_13 : decode prog_11_method_2_code 13 = .ok (.iconst 1, 1) := by decide +kernel
theorem d_Tom_isUnder_14 : decode prog_11_method_2_code 14 = .ok (.goto 4, 3) := by decide +kernel
set_option maxRecDepth 10000 in
set_option maxHeartbeats 4000000 in
theorem w_Tom_isUnder {q : QT} {z : ZT} {this : Nat} {a1 : Int32} {μ : Mm} {ν : Ml} (C : Ctx sdX q z prog_11_method_2_code "BesideTom$TomKind" 2 2 (some (FieldType.boolean))) (h_this : this ∈ kd_Tom) : R sdX q z 2 (φI μ ν) (F_Tom_isUnder this a1) μ ν 0 [(0, .ref (q.2.2.1 this)), (1, .int a1)] [] := by
  unfold F_Tom_isUnder
  refine R_iload_n C 1 d_Tom_isUnder_0 rfl rfl ?_
  refine R_iconst C d_Tom_isUnder_1 (v := 4) (by decide +kernel) ?_
  refine R_jn (fun K3 => R sdX q z 2 (φI μ ν) (K3 ()) μ ν 13 [] []) ?_ (fun K3 hK3 => ?_)
  · skip
    refine R_iconst C d_Tom_isUnder_13 (v := 1) (by decide +kernel) ?_
    refine R_goto C d_Tom_isUnder_14 (tgt := 18) (by decide) ?_
    exact R_zret C (by decide) rfl d_Tom_isUnder_18
  · skip
    refine R_icmp_eq C d_Tom_isUnder_2 (tgt := 13) (by decide) ?_ ?_
    · skip
      exact R_sub [] rfl (hK3)
    · skip
      refine R_aload_n C 0 d_Tom_isUnder_5 rfl rfl ?_
      refine R_iload_n C 1 d_Tom_isUnder_6 rfl rfl ?_
      refine R_bind (fun v1 h2 => ?_)
      obtain ⟨ci_, Cn_, T_, N_, hq1_, hq2_⟩ := kc_0 (kdup (A := kd_Tom) (by decide) h_this) q (μ this) (ν this)
      refine R_callSU C (ke_0 (kdup (A := kd_Tom) (by decide) h_this)) hq1_ hq2_ cf_Talk_isUnder (by decide) ml_Tom_7 sa_Talk_Talk_isUnder su_Tom_Talk im_Talk_isUnder (c_Talk_isUnder (gk C) (kdup (A := kd_Tom) (by decide) h_this) h2) (by decide) (by decide) rfl rfl (Nat.le_of_ble_eq_true rfl) d_Tom_isUnder_7 ?_
      refine R_if_eq C d_Tom_isUnder_10 (tgt := 17) (by decide) ?_ ?_
      · skip
        refine R_iconst C d_Tom_isUnder_17 (v := 0) (by decide +kernel) ?_
        exact R_zret C (by decide) rfl d_Tom_isUnder_18
      · skip
        exact R_sub [] rfl (hK3)
theorem c_Tom_isUnder {q : QT} (hg : GOk sdX q) {this : Nat} {a1 : Int32} {μ : Mm} {ν : Ml} (h_this : this ∈ kd_Tom) {o : Int32} (ho : F_Tom_isUnder this a1 = some o) : Ct sdX q y_Tom_isUnder prog_11_method_2_code 2 (some (FieldType.boolean)) 2 [.ref (q.2.2.1 this), .int a1] μ ν ((φI μ ν) o).1 ((φI μ ν) o).2.1 ((φI μ ν) o).2.2 := Ct_of rfl hg (fun z C => w_Tom_isUnder C h_this) (Nat.le_of_ble_eq_true rfl) ho
def F_BT_item (a1 : Int32) (a2 : Int32) (a3 : Int64) (μ : Mm) (ν : Ml) : Option (Int32 × Ml) := (F_BT_isTape a1).bind fun v1 => (if v1 = 0 then some ((-1), ν) else (rdI (μ 21) 6 a1).bind fun v3 => (if v3 = (-1) then some ((-11), ν) else (rdI (μ 22) 6 a1).bind fun v4 => (F_BT_within a2 0 (v4 - 1)).bind fun v5 => (if v5 = 0 then some ((-13), ν) else (rdR 15 6 a1).bind fun c7 => (rdI (μ 21) 6 a1).bind fun v8 => (F_BT_asItem v8 a3).bind fun v9 => (wrL ν c7 60 a2 v9).bind fun ν11 => some (1, ν11))))
theorem d_BT_item_0 : decode prog_1_method_43_code 0 = .ok (.iload_n 1, 1) := by decide +kernel
theorem d_BT_item_1 : decode prog_1_method_43_code 1 = .ok (.invokestatic 276, 3) := by decide +kernel
theorem d_BT_item_9 : decode prog_1_method_43_code 9 = .ok (.aload_n 0, 1) := by decide +kernel
theorem d_BT_item_13 : decode prog_1_method_43_code 13 = .ok (.iload_n 1, 1) := by decide +kernel
theorem d_BT_item_15 : decode prog_1_method_43_code 15 = .ok (.iconst (-1), 1) := by decide +kernel
theorem d_BT_item_22 : decode prog_1_method_43_code 22 = .ok (.iload_n 2, 1) := by decide +kernel
theorem d_BT_item_23 : decode prog_1_method_43_code 23 = .ok (.iconst 0, 1) := by decide +kernel
theorem d_BT_item_24 : decode prog_1_method_43_code 24 = .ok (.aload_n 0, 1) := by decide +kernel
theorem d_BT_item_28 : decode prog_1_method_43_code 28 = .ok (.iload_n 1, 1) := by decide +kernel
theorem d_BT_item_30 : decode prog_1_method_43_code 30 = .ok (.iconst 1, 1) := by decide +kernel
theorem d_BT_item_31 : decode prog_1_method_43_code 31 = .ok (.isub, 1) := by decide +kernel
theorem d_BT_item_32 : decode prog_1_method_43_code 32 = .ok (.invokestatic 76, 3) := by decide +kernel
theorem d_BT_item_41 : decode prog_1_method_43_code 41 = .ok (.aload_n 0, 1) := by decide +kernel
theorem d_BT_item_45 : decode prog_1_method_43_code 45 = .ok (.iload_n 1, 1) := by decide +kernel
theorem d_BT_item_47 : decode prog_1_method_43_code 47 = .ok (.iload_n 2, 1) := by decide +kernel
theorem d_BT_item_48 : decode prog_1_method_43_code 48 = .ok (.aload_n 0, 1) := by decide +kernel
theorem d_BT_item_52 : decode prog_1_method_43_code 52 = .ok (.iload_n 1, 1) := by decide +kernel
theorem d_BT_item_54 : decode prog_1_method_43_code 54 = .ok (.lload_n 3, 1) := by decide +kernel
theorem d_BT_item_55 : decode prog_1_method_43_code 55 = .ok (.invokestatic 317, 3) := by decide +kernel
theorem d_BT_item_59 : decode prog_1_method_43_code 59 = .ok (.iconst 1, 1) := by decide +kernel
theorem d_BT_item_60 : decode prog_1_method_43_code 60 = .ok (.ireturn, 1) := by decide +kernel
theorem d_BT_item_58 : decode prog_1_method_43_code 58 = .ok (.lastore, 1) := by decide +kernel
theorem d_BT_item_49 : decode prog_1_method_43_code 49 = .ok (.getfield 20, 3) := by decide +kernel
theorem d_BT_item_42 : decode prog_1_method_43_code 42 = .ok (.getfield 17, 3) := by decide +kernel
theorem d_BT_item_38 : decode prog_1_method_43_code 38 = .ok (.bipush (-13), 2) := by decide +kernel
theorem d_BT_item_40 : decode prog_1_method_43_code 40 = .ok (.ireturn, 1) := by decide +kernel
theorem d_BT_item_35 : decode prog_1_method_43_code 35 = .ok (.ifCond .ne 6, 3) := by decide +kernel
theorem d_BT_item_25 : decode prog_1_method_43_code 25 = .ok (.getfield 23, 3) := by decide +kernel
theorem d_BT_item_19 : decode prog_1_method_43_code 19 = .ok (.bipush (-11), 2) := by decide +kernel
theorem d_BT_item_21 : decode prog_1_method_43_code 21 = .ok (.ireturn, 1) := by decide +kernel
theorem d_BT_item_16 : decode prog_1_method_43_code 16 = .ok (.if_icmp .ne 6, 3) := by decide +kernel
theorem d_BT_item_10 : decode prog_1_method_43_code 10 = .ok (.getfield 20, 3) := by decide +kernel
theorem d_BT_item_7 : decode prog_1_method_43_code 7 = .ok (.iconst (-1), 1) := by decide +kernel
theorem d_BT_item_8 : decode prog_1_method_43_code 8 = .ok (.ireturn, 1) := by decide +kernel
theorem d_BT_item_4 : decode prog_1_method_43_code 4 = .ok (.ifCond .ne 5, 3) := by decide +kernel
theorem d_BT_item_14 : decode prog_1_method_43_code 14 = .ok (.iaload, 1) := by decide +kernel
theorem d_BT_item_29 : decode prog_1_method_43_code 29 = .ok (.iaload, 1) := by decide +kernel
theorem d_BT_item_46 : decode prog_1_method_43_code 46 = .ok (.aaload, 1) := by decide +kernel
theorem d_BT_item_53 : decode prog_1_method_43_code 53 = .ok (.iaload, 1) := by decide +kernel
set_option maxRecDepth 10000 in
set_option maxHeartbeats 4000000 in
theorem w_BT_item {q : QT} {z : ZT} {a1 : Int32} {a2 : Int32} {a3 : Int64} {μ : Mm} {ν : Ml} (C : Ctx sdX q z prog_1_method_43_code "BesideTom" 5 2 (some (FieldType.int))) : R sdX q z 5 (φIl μ) (F_BT_item a1 a2 a3 μ ν) μ ν 0 [(0, .ref (q.2.2.1 0)), (1, .int a1), (2, .int a2), (3, .long a3)] [] := by
  unfold F_BT_item
  refine R_iload_n C 1 d_BT_item_0 rfl rfl ?_
  refine R_bind (fun v1 h2 => ?_)
  refine R_callS C cf_BT_isTape ml_BT_276 sm_BT_isTape (c_BT_isTape (gk C) h2) (by decide) (by decide) rfl rfl (Nat.le_of_ble_eq_true rfl) d_BT_item_1 ?_
  refine R_if_ne C d_BT_item_4 (tgt := 9) (by decide) ?_ ?_
  · skip
    refine R_aload_n C 0 d_BT_item_9 rfl rfl ?_
    refine gf_BT_sorts C fl_BT_20 d_BT_item_10 ?_
    refine R_iload_n C 1 d_BT_item_13 rfl rfl ?_
    refine R_iald C xm_21 (xc_21 q _ _) d_BT_item_14 (fun v3 => ?_)
    refine R_iconst C d_BT_item_15 (v := (-1)) (by decide +kernel) ?_
    refine R_icmp_ne C d_BT_item_16 (tgt := 22) (by decide) ?_ ?_
    · skip
      refine R_iload_n C 2 d_BT_item_22 rfl rfl ?_
      refine R_iconst C d_BT_item_23 (v := 0) (by decide +kernel) ?_
      refine R_aload_n C 0 d_BT_item_24 rfl rfl ?_
      refine gf_BT_sizes C fl_BT_23 d_BT_item_25 ?_
      refine R_iload_n C 1 d_BT_item_28 rfl rfl ?_
      refine R_iald C xm_22 (xc_22 q _ _) d_BT_item_29 (fun v4 => ?_)
      refine R_iconst C d_BT_item_30 (v := 1) (by decide +kernel) ?_
      refine R_isub C d_BT_item_31 ?_
      refine R_bind (fun v5 h6 => ?_)
      refine R_callS C cf_BT_within ml_BT_76 sm_BT_within (c_BT_within (gk C) h6) (by decide) (by decide) rfl rfl (Nat.le_of_ble_eq_true rfl) d_BT_item_32 ?_
      refine R_if_ne C d_BT_item_35 (tgt := 41) (by decide) ?_ ?_
      · skip
        refine R_aload_n C 0 d_BT_item_41 rfl rfl ?_
        refine gf_BT_tapes C fl_BT_17 d_BT_item_42 ?_
        refine R_iload_n C 1 d_BT_item_45 rfl rfl ?_
        refine R_aald C (ti := 5) (ty := (.array .long)) xm_14 (xc_14 q _ _) rfl rfl d_BT_item_46 (fun c7 hc7 => ?_)
        refine R_iload_n C 2 d_BT_item_47 rfl rfl ?_
        refine R_aload_n C 0 d_BT_item_48 rfl rfl ?_
        refine gf_BT_sorts C fl_BT_20 d_BT_item_49 ?_
        refine R_iload_n C 1 d_BT_item_52 rfl rfl ?_
        refine R_iald C xm_21 (xc_21 q _ _) d_BT_item_53 (fun v8 => ?_)
        refine R_lload_n C 3 d_BT_item_54 rfl rfl ?_
        refine R_bind (fun v9 h10 => ?_)
        refine R_callS C cf_BT_asItem ml_BT_317 sm_BT_asItem (c_BT_asItem (gk C) h10) (by decide) (by decide) rfl rfl (Nat.le_of_ble_eq_true rfl) d_BT_item_55 ?_
        refine R_last C (pe_0 (tp_in hc7)) (fun h => pc_0 (tp_in hc7) q _ h) d_BT_item_58 (fun ν11 => ?_)
        refine R_iconst C d_BT_item_59 (v := 1) (by decide +kernel) ?_
        exact R_iret C rfl d_BT_item_60
      · skip
        refine R_bipush C d_BT_item_38 (v := (-13)) (by decide +kernel) ?_
        exact R_iret C rfl d_BT_item_40
    · skip
      refine R_bipush C d_BT_item_19 (v := (-11)) (by decide +kernel) ?_
      exact R_iret C rfl d_BT_item_21
  · skip
    refine R_iconst C d_BT_item_7 (v := (-1)) (by decide +kernel) ?_
    exact R_iret C rfl d_BT_item_8
theorem c_BT_item {q : QT} (hg : GOk sdX q) {a1 : Int32} {a2 : Int32} {a3 : Int64} {μ : Mm} {ν : Ml} {o : Int32 × Ml} (ho : F_BT_item a1 a2 a3 μ ν = some o) : Ct sdX q y_BT_item prog_1_method_43_code 5 (some (FieldType.int)) 2 [.ref (q.2.2.1 0), .int a1, .int a2, .long a3] μ ν ((φIl μ) o).1 ((φIl μ) o).2.1 ((φIl μ) o).2.2 := Ct_of rfl hg (fun z C => w_BT_item C) (Nat.le_of_ble_eq_true rfl) ho
def L_BT_judge_33 (f6 : Int32) (f7 : Int32) (μ : Mm) (ν : Ml) (k : Unit → Option (Int32)) : Nat → Int32 → Option (Int32)
  | 0, _ => none
  | n + 1, s5 => (if (μ 40 1) ≤ s5 then k () else (if f7 < 0 then some (100 + s5) else (rdI (μ 22) 6 f6).bind fun v8 => (if f7 < (v8 - s5) then (rdR 15 6 f6).bind fun c9 => (rdL (ν c9) 60 (f7 + s5)).bind fun v10 => (rdI (μ 43) 6 s5).bind fun v11 => (if (lg_cmp v10 (Int32.toInt64 v11)) = 0 then L_BT_judge_33 f6 f7 μ ν k n (s5 + 1) else some s5) else some (100 + s5))))
def F_BT_judge (a1 : Int32) (a2 : Int32) (μ : Mm) (ν : Ml) : Option (Int32) := (F_BT_isTape a1).bind fun v1 => (if v1 = 0 then some (-1) else (rdI (μ 21) 6 a1).bind fun v3 => jn (α := Unit) (fun K12 => (if v3 = (-1) then K12 () else (rdI (μ 21) 6 a1).bind fun v4 => (if v4 = 0 then K12 () else some (-12)))) (fun (_ : Unit) => L_BT_judge_33 a1 a2 μ ν (fun (_ : Unit) => some (-5)) fu 0))
theorem d_BT_judge_0 : decode prog_1_method_35_code 0 = .ok (.iload_n 1, 1) := by decide +kernel
theorem d_BT_judge_1 : decode prog_1_method_35_code 1 = .ok (.invokestatic 276, 3) := by decide +kernel
theorem d_BT_judge_9 : decode prog_1_method_35_code 9 = .ok (.aload_n 0, 1) := by decide +kernel
theorem d_BT_judge_13 : decode prog_1_method_35_code 13 = .ok (.iload_n 1, 1) := by decide +kernel
theorem d_BT_judge_15 : decode prog_1_method_35_code 15 = .ok (.iconst (-1), 1) := by decide +kernel
theorem d_BT_judge_19 : decode prog_1_method_35_code 19 = .ok (.aload_n 0, 1) := by decide +kernel
theorem d_BT_judge_23 : decode prog_1_method_35_code 23 = .ok (.iload_n 1, 1) := by decide +kernel
theorem d_BT_judge_28 : decode prog_1_method_35_code 28 = .ok (.bipush (-12), 2) := by decide +kernel
theorem d_BT_judge_30 : decode prog_1_method_35_code 30 = .ok (.ireturn, 1) := by decide +kernel
theorem d_BT_judge_25 : decode prog_1_method_35_code 25 = .ok (.ifCond .eq 6, 3) := by decide +kernel
theorem d_BT_judge_20 : decode prog_1_method_35_code 20 = .ok (.getfield 20, 3) := by decide +kernel
theorem d_BT_judge_16 : decode prog_1_method_35_code 16 = .ok (.if_icmp .eq 15, 3) := by decide +kernel
theorem d_BT_judge_31 : decode prog_1_method_35_code 31 = .ok (.iconst 0, 1) := by decide +kernel
theorem d_BT_judge_32 : decode prog_1_method_35_code 32 = .ok (.istore_n 3, 1) := by decide +kernel
theorem d_BT_judge_33 : decode prog_1_method_35_code 33 = .ok (.iload_n 3, 1) := by decide +kernel
theorem d_BT_judge_34 : decode prog_1_method_35_code 34 = .ok (.aload_n 0, 1) := by decide +kernel
theorem d_BT_judge_44 : decode prog_1_method_35_code 44 = .ok (.iload_n 2, 1) := by decide +kernel
theorem d_BT_judge_60 : decode prog_1_method_35_code 60 = .ok (.bipush 100, 2) := by decide +kernel
theorem d_BT_judge_62 : decode prog_1_method_35_code 62 = .ok (.iload_n 3, 1) := by decide +kernel
theorem d_BT_judge_63 : decode prog_1_method_35_code 63 = .ok (.iadd, 1) := by decide +kernel
theorem d_BT_judge_64 : decode prog_1_method_35_code 64 = .ok (.ireturn, 1) := by decide +kernel
theorem d_BT_judge_48 : decode prog_1_method_35_code 48 = .ok (.iload_n 2, 1) := by decide +kernel
theorem d_BT_judge_49 : decode prog_1_method_35_code 49 = .ok (.aload_n 0, 1) := by decide +kernel
theorem d_BT_judge_53 : decode prog_1_method_35_code 53 = .ok (.iload_n 1, 1) := by decide +kernel
theorem d_BT_judge_55 : decode prog_1_method_35_code 55 = .ok (.iload_n 3, 1) := by decide +kernel
theorem d_BT_judge_56 : decode prog_1_method_35_code 56 = .ok (.isub, 1) := by decide +kernel
theorem d_BT_judge_65 : decode prog_1_method_35_code 65 = .ok (.aload_n 0, 1) := by decide +kernel
theorem d_BT_judge_69 : decode prog_1_method_35_code 69 = .ok (.iload_n 1, 1) := by decide +kernel
theorem d_BT_judge_71 : decode prog_1_method_35_code 71 = .ok (.iload_n 2, 1) := by decide +kernel
theorem d_BT_judge_72 : decode prog_1_method_35_code 72 = .ok (.iload_n 3, 1) := by decide +kernel
theorem d_BT_judge_73 : decode prog_1_method_35_code 73 = .ok (.iadd, 1) := by decide +kernel
theorem d_BT_judge_75 : decode prog_1_method_35_code 75 = .ok (.aload_n 0, 1) := by decide +kernel
theorem d_BT_judge_82 : decode prog_1_method_35_code 82 = .ok (.iload_n 3, 1) := by decide +kernel
theorem d_BT_judge_84 : decode prog_1_method_35_code 84 = .ok (.i2l, 1) := by decide +kernel
theorem d_BT_judge_85 : decode prog_1_method_35_code 85 = .ok (.lcmp, 1) := by decide +kernel
theorem d_BT_judge_91 : decode prog_1_method_35_code 91 = .ok (.iinc 3 1, 3) := by decide +kernel
theorem d_BT_judge_94 : decode prog_1_method_35_code 94 = .ok (.goto (-61), 3) := by decide +kernel
theorem d_BT_judge_89 : decode prog_1_method_35_code 89 = .ok (.iload_n 3, 1) := by decide +kernel
theorem d_BT_judge_90 : decode prog_1_method_35_code 90 = .ok (.ireturn, 1) := by decide +kernel
theorem d_BT_judge_86 : decode prog_1_method_35_code 86 = .ok (.ifCond .eq 5, 3) := by decide +kernel
theorem d_BT_judge_79 : decode prog_1_method_35_code 79 = .ok (.getfield 105, 3) := by decide +kernel
theorem d_BT_judge_76 : decode prog_1_method_35_code 76 = .ok (.getfield 52, 3) := by decide +kernel
theorem d_BT_judge_66 : decode prog_1_method_35_code 66 = .ok (.getfield 17, 3) := by decide +kernel
theorem d_BT_judge_57 : decode prog_1_method_35_code 57 = .ok (.if_icmp .lt 8, 3) := by decide +kernel
theorem d_BT_judge_50 : decode prog_1_method_35_code 50 = .ok (.getfield 23, 3) := by decide +kernel
theorem d_BT_judge_45 : decode prog_1_method_35_code 45 = .ok (.ifCond .lt 15, 3) := by decide +kernel
theorem d_BT_judge_41 : decode prog_1_method_35_code 41 = .ok (.if_icmp .ge 56, 3) := by decide +kernel
theorem d_BT_judge_38 : decode prog_1_method_35_code 38 = .ok (.getfield 80, 3) := by decide +kernel
theorem d_BT_judge_35 : decode prog_1_method_35_code 35 = .ok (.getfield 52, 3) := by decide +kernel
theorem d_BT_judge_54 : decode prog_1_method_35_code 54 = .ok (.iaload, 1) := by decide +kernel
theorem d_BT_judge_70 : decode prog_1_method_35_code 70 = .ok (.aaload, 1) := by decide +kernel
theorem d_BT_judge_74 : decode prog_1_method_35_code 74 = .ok (.laload, 1) := by decide +kernel
theorem d_BT_judge_83 : decode prog_1_method_35_code 83 = .ok (.iaload, 1) := by decide +kernel
set_option maxRecDepth 10000 in
set_option maxHeartbeats 4000000 in
theorem W_BT_judge_33 {q : QT} {z : ZT} {μ : Mm} {ν : Ml} {f6 : Int32} {f7 : Int32} {k : Unit → Option (Int32)} (C : Ctx sdX q z prog_1_method_35_code "BesideTom" 4 2 (some (FieldType.int))) (hk : R sdX q z 4 (φI μ ν) (k ()) μ ν 97 [] []) : ∀ (n : Nat) (s5 : Int32), R sdX q z 4 (φI μ ν) (L_BT_judge_33 f6 f7 μ ν k n s5) μ ν 33 [(3, .int s5), (0, .ref (q.2.2.1 0)), (1, .int f6), (2, .int f7)] [] := by
  intro n
  induction n with
  | zero =>
    intros
    exact R_none
  | succ n ih =>
    intro s5
    rw [L_BT_judge_33]
    refine R_iload_n C 0 d_BT_judge_33 rfl rfl ?_
    refine R_aload_n C 1 d_BT_judge_34 rfl rfl ?_
    refine gf_BT_now C fl_BT_52 d_BT_judge_35 ?_
    refine gf_Seat_many C s40 fl_BT_80 d_BT_judge_38 ?_
    refine R_icmp_ge C d_BT_judge_41 (tgt := 97) (by decide) ?_ ?_
    · skip
      exact R_sub [] rfl hk
    · skip
      refine R_iload_n C 3 d_BT_judge_44 rfl rfl ?_
      refine R_if_lt C d_BT_judge_45 (tgt := 60) (by decide) ?_ ?_
      · skip
        refine R_bipush C d_BT_judge_60 (v := 100) (by decide +kernel) ?_
        refine R_iload_n C 0 d_BT_judge_62 rfl rfl ?_
        refine R_iadd C d_BT_judge_63 ?_
        exact R_iret C rfl d_BT_judge_64
      · skip
        refine R_iload_n C 3 d_BT_judge_48 rfl rfl ?_
        refine R_aload_n C 1 d_BT_judge_49 rfl rfl ?_
        refine gf_BT_sizes C fl_BT_23 d_BT_judge_50 ?_
        refine R_iload_n C 2 d_BT_judge_53 rfl rfl ?_
        refine R_iald C xm_22 (xc_22 q _ _) d_BT_judge_54 (fun v8 => ?_)
        refine R_iload_n C 0 d_BT_judge_55 rfl rfl ?_
        refine R_isub C d_BT_judge_56 ?_
        refine R_icmp_lt C d_BT_judge_57 (tgt := 65) (by decide) ?_ ?_
        · skip
          refine R_aload_n C 1 d_BT_judge_65 rfl rfl ?_
          refine gf_BT_tapes C fl_BT_17 d_BT_judge_66 ?_
          refine R_iload_n C 2 d_BT_judge_69 rfl rfl ?_
          refine R_aald C (ti := 5) (ty := (.array .long)) xm_14 (xc_14 q _ _) rfl rfl d_BT_judge_70 (fun c9 hc9 => ?_)
          refine R_iload_n C 3 d_BT_judge_71 rfl rfl ?_
          refine R_iload_n C 0 d_BT_judge_72 rfl rfl ?_
          refine R_iadd C d_BT_judge_73 ?_
          refine R_lald C (pe_0 (tp_in hc9)) (pc_0 (tp_in hc9) q _ _) d_BT_judge_74 (fun v10 => ?_)
          refine R_aload_n C 1 d_BT_judge_75 rfl rfl ?_
          refine gf_BT_now C fl_BT_52 d_BT_judge_76 ?_
          refine gf_Seat_desk C s40 fl_BT_105 d_BT_judge_79 ?_
          refine R_iload_n C 0 d_BT_judge_82 rfl rfl ?_
          refine R_iald C (se_3 s40) (sc_3 s40 q _ _) d_BT_judge_83 (fun v11 => ?_)
          refine R_i2l C d_BT_judge_84 ?_
          refine R_lcmp C d_BT_judge_85 ?_
          refine R_if_eq C d_BT_judge_86 (tgt := 91) (by decide) ?_ ?_
          · skip
            refine R_iinc C 0 d_BT_judge_91 rfl (iinc_v _ (v := 1) (by decide +kernel)) (lv' := [(3, .int (s5 + 1)), (0, .ref (q.2.2.1 0)), (1, .int f6), (2, .int f7)]) (by decide) rfl ?_
            refine R_goto C d_BT_judge_94 (tgt := 33) (by decide) ?_
            exact R_sub [0, 1, 2, 3] rfl (ih (s5 + 1))
          · skip
            refine R_iload_n C 0 d_BT_judge_89 rfl rfl ?_
            exact R_iret C rfl d_BT_judge_90
        · skip
          refine R_bipush C d_BT_judge_60 (v := 100) (by decide +kernel) ?_
          refine R_iload_n C 0 d_BT_judge_62 rfl rfl ?_
          refine R_iadd C d_BT_judge_63 ?_
          exact R_iret C rfl d_BT_judge_64
theorem d_BT_judge_97 : decode prog_1_method_35_code 97 = .ok (.bipush (-5), 2) := by decide +kernel
theorem d_BT_judge_99 : decode prog_1_method_35_code 99 = .ok (.ireturn, 1) := by decide +kernel
theorem d_BT_judge_10 : decode prog_1_method_35_code 10 = .ok (.getfield 20, 3) := by decide +kernel
theorem d_BT_judge_7 : decode prog_1_method_35_code 7 = .ok (.iconst (-1), 1) := by decide +kernel
theorem d_BT_judge_8 : decode prog_1_method_35_code 8 = .ok (.ireturn, 1) := by decide +kernel
theorem d_BT_judge_4 : decode prog_1_method_35_code 4 = .ok (.ifCond .ne 5, 3) := by decide +kernel
theorem d_BT_judge_14 : decode prog_1_method_35_code 14 = .ok (.iaload, 1) := by decide +kernel
theorem d_BT_judge_24 : decode prog_1_method_35_code 24 = .ok (.iaload, 1) := by decide +kernel
set_option maxRecDepth 10000 in
set_option maxHeartbeats 4000000 in
theorem w_BT_judge {q : QT} {z : ZT} {a1 : Int32} {a2 : Int32} {μ : Mm} {ν : Ml} (C : Ctx sdX q z prog_1_method_35_code "BesideTom" 4 2 (some (FieldType.int))) : R sdX q z 4 (φI μ ν) (F_BT_judge a1 a2 μ ν) μ ν 0 [(0, .ref (q.2.2.1 0)), (1, .int a1), (2, .int a2)] [] := by
  unfold F_BT_judge
  refine R_iload_n C 1 d_BT_judge_0 rfl rfl ?_
  refine R_bind (fun v1 h2 => ?_)
  refine R_callS C cf_BT_isTape ml_BT_276 sm_BT_isTape (c_BT_isTape (gk C) h2) (by decide) (by decide) rfl rfl (Nat.le_of_ble_eq_true rfl) d_BT_judge_1 ?_
  refine R_if_ne C d_BT_judge_4 (tgt := 9) (by decide) ?_ ?_
  · skip
    refine R_aload_n C 0 d_BT_judge_9 rfl rfl ?_
    refine gf_BT_sorts C fl_BT_20 d_BT_judge_10 ?_
    refine R_iload_n C 1 d_BT_judge_13 rfl rfl ?_
    refine R_iald C xm_21 (xc_21 q _ _) d_BT_judge_14 (fun v3 => ?_)
    refine R_iconst C d_BT_judge_15 (v := (-1)) (by decide +kernel) ?_
    refine R_jn (fun K12 => R sdX q z 4 (φI μ ν) (K12 ()) μ ν 31 [(0, .ref (q.2.2.1 0)), (1, .int a1), (2, .int a2)] []) ?_ (fun K12 hK12 => ?_)
    · skip
      refine R_iconst C d_BT_judge_31 (v := 0) (by decide +kernel) ?_
      refine R_istore_n C (lv' := [(3, .int 0), (0, .ref (q.2.2.1 0)), (1, .int a1), (2, .int a2)]) d_BT_judge_32 rfl (by decide) rfl ?_
      refine R_sub [0, 1, 2, 3] rfl ?_
      refine W_BT_judge_33 C ?_ fu _
      skip
      refine R_bipush C d_BT_judge_97 (v := (-5)) (by decide +kernel) ?_
      exact R_iret C rfl d_BT_judge_99
    · skip
      refine R_icmp_eq C d_BT_judge_16 (tgt := 31) (by decide) ?_ ?_
      · skip
        exact R_sub [0, 1, 2] rfl (hK12)
      · skip
        refine R_aload_n C 0 d_BT_judge_19 rfl rfl ?_
        refine gf_BT_sorts C fl_BT_20 d_BT_judge_20 ?_
        refine R_iload_n C 1 d_BT_judge_23 rfl rfl ?_
        refine R_iald C xm_21 (xc_21 q _ _) d_BT_judge_24 (fun v4 => ?_)
        refine R_if_eq C d_BT_judge_25 (tgt := 31) (by decide) ?_ ?_
        · skip
          exact R_sub [0, 1, 2] rfl (hK12)
        · skip
          refine R_bipush C d_BT_judge_28 (v := (-12)) (by decide +kernel) ?_
          exact R_iret C rfl d_BT_judge_30
  · skip
    refine R_iconst C d_BT_judge_7 (v := (-1)) (by decide +kernel) ?_
    exact R_iret C rfl d_BT_judge_8
theorem c_BT_judge {q : QT} (hg : GOk sdX q) {a1 : Int32} {a2 : Int32} {μ : Mm} {ν : Ml} {o : Int32} (ho : F_BT_judge a1 a2 μ ν = some o) : Ct sdX q y_BT_judge prog_1_method_35_code 4 (some (FieldType.int)) 2 [.ref (q.2.2.1 0), .int a1, .int a2] μ ν ((φI μ ν) o).1 ((φI μ ν) o).2.1 ((φI μ ν) o).2.2 := Ct_of rfl hg (fun z C => w_BT_judge C) (Nat.le_of_ble_eq_true rfl) ho
def F_Cork_learning (this : Nat) (a1 : Int32) (a2 : Int32) (a3 : Int32) (a4 : Int32) : Option (Int32) := (F_Quiet_learning this a1 a2 a3 a4).bind fun v1 => some (v1 - a4)
theorem d_Cork_learning_0 : decode prog_2_method_4_code 0 = .ok (.aload_n 0, 1) := by decide +kernel
theorem d_Cork_learning_1 : decode prog_2_method_4_code 1 = .ok (.iload_n 1, 1) := by decide +kernel
theorem d_Cork_learning_2 : decode prog_2_method_4_code 2 = .ok (.iload_n 2, 1) := by decide +kernel
theorem d_Cork_learning_3 : decode prog_2_method_4_code 3 = .ok (.iload_n 3, 1) := by decide +kernel
theorem d_Cork_learning_4 : decode prog_2_method_4_code 4 = .ok (.iload 4, 2) := by decide +kernel
theorem d_Cork_learning_6 : decode prog_2_method_4_code 6 = .ok (.invokespecial 13, 3) := by decide +kernel
theorem d_Cork_learning_9 : decode prog_2_method_4_code 9 = .ok (.iload 4, 2) := by decide +kernel
theorem d_Cork_learning_11 : decode prog_2_method_4_code 11 = .ok (.isub, 1) := by decide +kernel
theorem d_Cork_learning_12 : decode prog_2_method_4_code 12 = .ok (.ireturn, 1) := by decide +kernel
set_option maxRecDepth 10000 in
set_option maxHeartbeats 4000000 in
theorem w_Cork_learning {q : QT} {z : ZT} {this : Nat} {a1 : Int32} {a2 : Int32} {a3 : Int32} {a4 : Int32} {μ : Mm} {ν : Ml} (C : Ctx sdX q z prog_2_method_4_code "BesideTom$CorkKind" 5 2 (some (FieldType.int))) (h_this : this ∈ kd_Cork) : R sdX q z 5 (φI μ ν) (F_Cork_learning this a1 a2 a3 a4) μ ν 0 [(0, .ref (q.2.2.1 this)), (1, .int a1), (2, .int a2), (3, .int a3), (4, .int a4)] [] := by
  unfold F_Cork_learning
  refine R_aload_n C 0 d_Cork_learning_0 rfl rfl ?_
  refine R_iload_n C 1 d_Cork_learning_1 rfl rfl ?_
  refine R_iload_n C 2 d_Cork_learning_2 rfl rfl ?_
  refine R_iload_n C 3 d_Cork_learning_3 rfl rfl ?_
  refine R_iload C 4 d_Cork_learning_4 rfl ?_
  refine R_bind (fun v1 h2 => ?_)
  obtain ⟨ci_, Cn_, T_, N_, hq1_, hq2_⟩ := kc_0 (kdup (A := kd_Cork) (by decide) h_this) q (μ this) (ν this)
  refine R_callSU C (ke_0 (kdup (A := kd_Cork) (by decide) h_this)) hq1_ hq2_ cf_Quiet_learning (by decide) ml_Cork_13 sa_Quiet_Quiet_learning su_Cork_Quiet im_Quiet_learning (c_Quiet_learning (gk C) (kdup (A := kd_Cork) (by decide) h_this) h2) (by decide) (by decide) rfl rfl (Nat.le_of_ble_eq_true rfl) d_Cork_learning_6 ?_
  refine R_iload C 4 d_Cork_learning_9 rfl ?_
  refine R_isub C d_Cork_learning_11 ?_
  exact R_iret C rfl d_Cork_learning_12
theorem c_Cork_learning {q : QT} (hg : GOk sdX q) {this : Nat} {a1 : Int32} {a2 : Int32} {a3 : Int32} {a4 : Int32} {μ : Mm} {ν : Ml} (h_this : this ∈ kd_Cork) {o : Int32} (ho : F_Cork_learning this a1 a2 a3 a4 = some o) : Ct sdX q y_Cork_learning prog_2_method_4_code 5 (some (FieldType.int)) 2 [.ref (q.2.2.1 this), .int a1, .int a2, .int a3, .int a4] μ ν ((φI μ ν) o).1 ((φI μ ν) o).2.1 ((φI μ ν) o).2.2 := Ct_of rfl hg (fun z C => w_Cork_learning C h_this) (Nat.le_of_ble_eq_true rfl) ho
def F_Seat_moves (this : Nat) (a1 : Int32) (a2 : Int32) (μ : Mm) : Option (Mm) := (F_Seat_sits this a1 a2 μ).bind fun μ1 => lt_ (up2 μ1 this 3 0) fun μ3 => some μ3
theorem d_Seat_moves_0 : decode prog_7_method_10_code 0 = .ok (.aload_n 0, 1) := by decide +kernel
theorem d_Seat_moves_1 : decode prog_7_method_10_code 1 = .ok (.iload_n 1, 1) := by decide +kernel
theorem d_Seat_moves_2 : decode prog_7_method_10_code 2 = .ok (.iload_n 2, 1) := by decide +kernel
theorem d_Seat_moves_3 : decode prog_7_method_10_code 3 = .ok (.invokevirtual 96, 3) := by decide +kernel
theorem d_Seat_moves_6 : decode prog_7_method_10_code 6 = .ok (.aload_n 0, 1) := by decide +kernel
theorem d_Seat_moves_7 : decode prog_7_method_10_code 7 = .ok (.iconst 0, 1) := by decide +kernel
theorem d_Seat_moves_11 : decode prog_7_method_10_code 11 = .ok (.return_, 1) := by decide +kernel
theorem d_Seat_moves_8 : decode prog_7_method_10_code 8 = .ok (.putfield 65, 3) := by decide +kernel
set_option maxRecDepth 10000 in
set_option maxHeartbeats 4000000 in
theorem w_Seat_moves {q : QT} {z : ZT} {this : Nat} {a1 : Int32} {a2 : Int32} {μ : Mm} {ν : Ml} (C : Ctx sdX q z prog_7_method_10_code "BesideTom$Seating" 3 2 none) (h_this : this ∈ seats) : R sdX q z 3 (φVm ν) (F_Seat_moves this a1 a2 μ) μ ν 0 [(0, .ref (q.2.2.1 this)), (1, .int a1), (2, .int a2)] [] := by
  unfold F_Seat_moves
  refine R_aload_n C 0 d_Seat_moves_0 rfl rfl ?_
  refine R_iload_n C 1 d_Seat_moves_1 rfl rfl ?_
  refine R_iload_n C 2 d_Seat_moves_2 rfl rfl ?_
  refine R_bind (fun μ1 h2 => ?_)
  refine R_callV C (se_0 h_this) (sc_0 h_this q _ _) rfl cf_Seat_sits rfl ml_Seat_96 im_Seat_sits sl_Seat_Seat_sits_Seat_sits (c_Seat_sits (gk C) h_this h2) (by decide) (by decide) rfl rfl (Nat.le_of_ble_eq_true rfl) d_Seat_moves_3 ?_
  refine R_aload_n C 0 d_Seat_moves_6 rfl rfl ?_
  refine R_iconst C d_Seat_moves_7 (v := 0) (by decide +kernel) ?_
  refine pf_Seat_wear C h_this fl_Seat_65 d_Seat_moves_8 (fun μ3 => ?_)
  exact R_vret C rfl d_Seat_moves_11
theorem c_Seat_moves {q : QT} (hg : GOk sdX q) {this : Nat} {a1 : Int32} {a2 : Int32} {μ : Mm} {ν : Ml} (h_this : this ∈ seats) {o : Mm} (ho : F_Seat_moves this a1 a2 μ = some o) : Ct sdX q y_Seat_moves prog_7_method_10_code 3 none 2 [.ref (q.2.2.1 this), .int a1, .int a2] μ ν ((φVm ν) o).1 ((φVm ν) o).2.1 ((φVm ν) o).2.2 := Ct_of rfl hg (fun z C => w_Seat_moves C h_this) (Nat.le_of_ble_eq_true rfl) ho
def L_Seat_neighbours_4 (f3 : Nat) (f4 : Int32) (μ : Mm) (k : Int32 → Option (Int32)) : Nat → Int32 → Int32 → Option (Int32)
  | 0, _, _ => none
  | n + 1, s1, s2 => (if (μ f3 1) ≤ s2 then k s1 else (F_Seat_isAway f3 s2 μ).bind fun v5 => jn (α := Int32) (fun K14 => (if v5 = 0 then (rdI (μ (f3 + 3)) 6 f4).bind fun v7 => (rdI nextT 6 v7).bind fun v8 => (rdI (μ (f3 + 3)) 6 s2).bind fun v9 => (F_BT_bit v8 v9).bind fun v10 => (if v10 = 0 then K14 s1 else lt_ (s1 ||| (1 <<< (s2 &&& 31))) fun x12 => K14 x12) else K14 s1)) (fun (j13 : Int32) => L_Seat_neighbours_4 f3 f4 μ k n j13 (s2 + 1)))
def F_Seat_neighbours (this : Nat) (a1 : Int32) (μ : Mm) : Option (Int32) := L_Seat_neighbours_4 this a1 μ (fun (x15 : Int32) => some x15) fu 0 0
theorem d_Seat_neighbours_0 : decode prog_7_method_12_code 0 = .ok (.iconst 0, 1) := by decide +kernel
theorem d_Seat_neighbours_1 : decode prog_7_method_12_code 1 = .ok (.istore_n 2, 1) := by decide +kernel
theorem d_Seat_neighbours_2 : decode prog_7_method_12_code 2 = .ok (.iconst 0, 1) := by decide +kernel
theorem d_Seat_neighbours_3 : decode prog_7_method_12_code 3 = .ok (.istore_n 3, 1) := by decide +kernel
theorem d_Seat_neighbours_4 : decode prog_7_method_12_code 4 = .ok (.iload_n 3, 1) := by decide +kernel
theorem d_Seat_neighbours_5 : decode prog_7_method_12_code 5 = .ok (.aload_n 0, 1) := by decide +kernel
theorem d_Seat_neighbours_12 : decode prog_7_method_12_code 12 = .ok (.aload_n 0, 1) := by decide +kernel
theorem d_Seat_neighbours_13 : decode prog_7_method_12_code 13 = .ok (.iload_n 3, 1) := by decide +kernel
theorem d_Seat_neighbours_14 : decode prog_7_method_12_code 14 = .ok (.invokevirtual 100, 3) := by decide +kernel
theorem d_Seat_neighbours_20 : decode prog_7_method_12_code 20 = .ok (.getstatic 104, 3) := by decide +kernel
theorem d_Seat_neighbours_23 : decode prog_7_method_12_code 23 = .ok (.aload_n 0, 1) := by decide +kernel
theorem d_Seat_neighbours_27 : decode prog_7_method_12_code 27 = .ok (.iload_n 1, 1) := by decide +kernel
theorem d_Seat_neighbours_30 : decode prog_7_method_12_code 30 = .ok (.aload_n 0, 1) := by decide +kernel
theorem d_Seat_neighbours_34 : decode prog_7_method_12_code 34 = .ok (.iload_n 3, 1) := by decide +kernel
theorem d_Seat_neighbours_36 : decode prog_7_method_12_code 36 = .ok (.invokestatic 92, 3) := by decide +kernel
theorem d_Seat_neighbours_42 : decode prog_7_method_12_code 42 = .ok (.iload_n 2, 1) := by decide +kernel
theorem d_Seat_neighbours_43 : decode prog_7_method_12_code 43 = .ok (.iconst 1, 1) := by decide +kernel
theorem d_Seat_neighbours_44 : decode prog_7_method_12_code 44 = .ok (.iload_n 3, 1) := by decide +kernel
theorem d_Seat_neighbours_45 : decode prog_7_method_12_code 45 = .ok (.ishl, 1) := by decide +kernel
theorem d_Seat_neighbours_46 : decode prog_7_method_12_code 46 = .ok (.ior, 1) := by decide +kernel
theorem d_Seat_neighbours_47 : decode prog_7_method_12_code 47 = .ok (.istore_n 2, 1) := by decide +kernel
theorem d_Seat_neighbours_39 : decode prog_7_method_12_code 39 = .ok (.ifCond .eq 9, 3) := by decide +kernel
theorem d_Seat_neighbours_31 : decode prog_7_method_12_code 31 = .ok (.getfield 28, 3) := by decide +kernel
theorem d_Seat_neighbours_24 : decode prog_7_method_12_code 24 = .ok (.getfield 28, 3) := by decide +kernel
theorem d_Seat_neighbours_17 : decode prog_7_method_12_code 17 = .ok (.ifCond .ne 31, 3) := by decide +kernel
theorem d_Seat_neighbours_48 : decode prog_7_method_12_code 48 = .ok (.iinc 3 1, 3) := by decide +kernel
theorem d_Seat_neighbours_51 : decode prog_7_method_12_code 51 = .ok (.goto (-47), 3) := by decide +kernel
theorem d_Seat_neighbours_9 : decode prog_7_method_12_code 9 = .ok (.if_icmp .ge 45, 3) := by decide +kernel
theorem d_Seat_neighbours_6 : decode prog_7_method_12_code 6 = .ok (.getfield 59, 3) := by decide +kernel
theorem d_Seat_neighbours_28 : decode prog_7_method_12_code 28 = .ok (.iaload, 1) := by decide +kernel
theorem d_Seat_neighbours_29 : decode prog_7_method_12_code 29 = .ok (.iaload, 1) := by decide +kernel
theorem d_Seat_neighbours_35 : decode prog_7_method_12_code 35 = .ok (.iaload, 1) := by decide +kernel
set_option maxRecDepth 10000 in
set_option maxHeartbeats 4000000 in
theorem W_Seat_neighbours_4 {q : QT} {z : ZT} {μ : Mm} {ν : Ml} {f3 : Nat} {f4 : Int32} {k : Int32 → Option (Int32)} (C : Ctx sdX q z prog_7_method_12_code "BesideTom$Seating" 4 2 (some (FieldType.int))) (h_f3 : f3 ∈ seats) (hk : ∀ (e0_ : Int32), R sdX q z 4 (φI μ ν) (k e0_) μ ν 54 [(2, .int e0_)] []) : ∀ (n : Nat) (s1 : Int32) (s2 : Int32), R sdX q z 4 (φI μ ν) (L_Seat_neighbours_4 f3 f4 μ k n s1 s2) μ ν 4 [(2, .int s1), (3, .int s2), (0, .ref (q.2.2.1 f3)), (1, .int f4)] [] := by
  intro n
  induction n with
  | zero =>
    intros
    exact R_none
  | succ n ih =>
    intro s1 s2
    rw [L_Seat_neighbours_4]
    refine R_iload_n C 1 d_Seat_neighbours_4 rfl rfl ?_
    refine R_aload_n C 2 d_Seat_neighbours_5 rfl rfl ?_
    refine gf_Seat_many C h_f3 fl_Seat_59 d_Seat_neighbours_6 ?_
    refine R_icmp_ge C d_Seat_neighbours_9 (tgt := 54) (by decide) ?_ ?_
    · skip
      exact R_sub [0] rfl (hk s1)
    · skip
      refine R_aload_n C 2 d_Seat_neighbours_12 rfl rfl ?_
      refine R_iload_n C 1 d_Seat_neighbours_13 rfl rfl ?_
      refine R_bind (fun v5 h6 => ?_)
      refine R_callV C (se_0 h_f3) (sc_0 h_f3 q _ _) rfl cf_Seat_isAway rfl ml_Seat_100 im_Seat_isAway sl_Seat_Seat_isAway_Seat_isAway (c_Seat_isAway (gk C) h_f3 h6) (by decide) (by decide) rfl rfl (Nat.le_of_ble_eq_true rfl) d_Seat_neighbours_14 ?_
      refine R_jn (fun K14 => ∀ (j13 : Int32), R sdX q z 4 (φI μ ν) (K14 j13) μ ν 48 [(0, .ref (q.2.2.1 f3)), (1, .int f4), (2, .int j13), (3, .int s2)] []) ?_ (fun K14 hK14 => ?_)
      · intro j13
        refine R_iinc C 3 d_Seat_neighbours_48 rfl (iinc_v _ (v := 1) (by decide +kernel)) (lv' := [(3, .int (s2 + 1)), (0, .ref (q.2.2.1 f3)), (1, .int f4), (2, .int j13)]) (by decide) rfl ?_
        refine R_goto C d_Seat_neighbours_51 (tgt := 4) (by decide) ?_
        exact R_sub [3, 0, 1, 2] rfl (ih j13 (s2 + 1))
      · skip
        refine R_if_ne C d_Seat_neighbours_17 (tgt := 48) (by decide) ?_ ?_
        · skip
          exact R_sub [2, 3, 0, 1] rfl (hK14 s1)
        · skip
          refine R_getNEXT C fl_Seat_104 d_Seat_neighbours_20 ?_
          refine R_aload_n C 2 d_Seat_neighbours_23 rfl rfl ?_
          refine gf_Seat_desk C h_f3 fl_Seat_28 d_Seat_neighbours_24 ?_
          refine R_iload_n C 3 d_Seat_neighbours_27 rfl rfl ?_
          refine R_iald C (se_3 h_f3) (sc_3 h_f3 q _ _) d_Seat_neighbours_28 (fun v7 => ?_)
          refine R_aldNEXT C d_Seat_neighbours_29 (fun v8 => ?_)
          refine R_aload_n C 2 d_Seat_neighbours_30 rfl rfl ?_
          refine gf_Seat_desk C h_f3 fl_Seat_28 d_Seat_neighbours_31 ?_
          refine R_iload_n C 1 d_Seat_neighbours_34 rfl rfl ?_
          refine R_iald C (se_3 h_f3) (sc_3 h_f3 q _ _) d_Seat_neighbours_35 (fun v9 => ?_)
          refine R_bind (fun v10 h11 => ?_)
          refine R_callSN C cf_BT_bit (C.2.2.2.2.2.2.2.1.2.2.2.2.2.2.1) sm_BT_bit (c_BT_bit (gk C) h11) (by decide) (by decide) rfl rfl (Nat.le_of_ble_eq_true rfl) d_Seat_neighbours_36 ?_
          refine R_if_eq C d_Seat_neighbours_39 (tgt := 48) (by decide) ?_ ?_
          · skip
            exact R_sub [2, 3, 0, 1] rfl (hK14 s1)
          · skip
            refine R_iload_n C 0 d_Seat_neighbours_42 rfl rfl ?_
            refine R_iconst C d_Seat_neighbours_43 (v := 1) (by decide +kernel) ?_
            refine R_iload_n C 1 d_Seat_neighbours_44 rfl rfl ?_
            refine R_ishl C d_Seat_neighbours_45 ?_
            refine R_ior C d_Seat_neighbours_46 ?_
            refine R_nm (fun x12 => ?_)
            refine R_istore_n C (lv' := [(2, .int x12), (3, .int s2), (0, .ref (q.2.2.1 f3)), (1, .int f4)]) d_Seat_neighbours_47 rfl (by decide) rfl ?_
            exact R_sub [2, 3, 0, 1] rfl (hK14 x12)
theorem d_Seat_neighbours_54 : decode prog_7_method_12_code 54 = .ok (.iload_n 2, 1) := by decide +kernel
theorem d_Seat_neighbours_55 : decode prog_7_method_12_code 55 = .ok (.ireturn, 1) := by decide +kernel
set_option maxRecDepth 10000 in
set_option maxHeartbeats 4000000 in
theorem w_Seat_neighbours {q : QT} {z : ZT} {this : Nat} {a1 : Int32} {μ : Mm} {ν : Ml} (C : Ctx sdX q z prog_7_method_12_code "BesideTom$Seating" 4 2 (some (FieldType.int))) (h_this : this ∈ seats) : R sdX q z 4 (φI μ ν) (F_Seat_neighbours this a1 μ) μ ν 0 [(0, .ref (q.2.2.1 this)), (1, .int a1)] [] := by
  unfold F_Seat_neighbours
  refine R_iconst C d_Seat_neighbours_0 (v := 0) (by decide +kernel) ?_
  refine R_istore_n C (lv' := [(2, .int 0), (0, .ref (q.2.2.1 this)), (1, .int a1)]) d_Seat_neighbours_1 rfl (by decide) rfl ?_
  refine R_iconst C d_Seat_neighbours_2 (v := 0) (by decide +kernel) ?_
  refine R_istore_n C (lv' := [(3, .int 0), (2, .int 0), (0, .ref (q.2.2.1 this)), (1, .int a1)]) d_Seat_neighbours_3 rfl (by decide) rfl ?_
  refine R_sub [1, 0, 2, 3] rfl ?_
  refine W_Seat_neighbours_4 C h_this ?_ fu _ _
  intro x15
  refine R_iload_n C 0 d_Seat_neighbours_54 rfl rfl ?_
  exact R_iret C rfl d_Seat_neighbours_55
theorem c_Seat_neighbours {q : QT} (hg : GOk sdX q) {this : Nat} {a1 : Int32} {μ : Mm} {ν : Ml} (h_this : this ∈ seats) {o : Int32} (ho : F_Seat_neighbours this a1 μ = some o) : Ct sdX q y_Seat_neighbours prog_7_method_12_code 4 (some (FieldType.int)) 2 [.ref (q.2.2.1 this), .int a1] μ ν ((φI μ ν) o).1 ((φI μ ν) o).2.1 ((φI μ ν) o).2.2 := Ct_of rfl hg (fun z C => w_Seat_neighbours C h_this) (Nat.le_of_ble_eq_true rfl) ho
def F_BT_read (a1 : Int32) (a2 : Int32) (μ : Mm) (ν : Ml) : Option (Int64) := (F_BT_isTape a1).bind fun v1 => (if v1 = 0 then some (-9223372036854775808) else (rdI (μ 22) 6 a1).bind fun v3 => (F_BT_within a2 0 (v3 - 1)).bind fun v4 => (if v4 = 0 then some (-9223372036854775808) else (rdR 15 6 a1).bind fun c6 => (rdL (ν c6) 60 a2).bind fun v7 => some v7))
theorem d_BT_read_0 : decode prog_1_method_44_code 0 = .ok (.iload_n 1, 1) := by decide +kernel
theorem d_BT_read_1 : decode prog_1_method_44_code 1 = .ok (.invokestatic 276, 3) := by decide +kernel
theorem d_BT_read_34 : decode prog_1_method_44_code 34 = .ok (.ldc2_w 254, 3) := by decide +kernel
theorem d_BT_read_37 : decode prog_1_method_44_code 37 = .ok (.lreturn, 1) := by decide +kernel
theorem d_BT_read_7 : decode prog_1_method_44_code 7 = .ok (.iload_n 2, 1) := by decide +kernel
theorem d_BT_read_8 : decode prog_1_method_44_code 8 = .ok (.iconst 0, 1) := by decide +kernel
theorem d_BT_read_9 : decode prog_1_method_44_code 9 = .ok (.aload_n 0, 1) := by decide +kernel
theorem d_BT_read_13 : decode prog_1_method_44_code 13 = .ok (.iload_n 1, 1) := by decide +kernel
theorem d_BT_read_15 : decode prog_1_method_44_code 15 = .ok (.iconst 1, 1) := by decide +kernel
theorem d_BT_read_16 : decode prog_1_method_44_code 16 = .ok (.isub, 1) := by decide +kernel
theorem d_BT_read_17 : decode prog_1_method_44_code 17 = .ok (.invokestatic 76, 3) := by decide +kernel
theorem d_BT_read_23 : decode prog_1_method_44_code 23 = .ok (.aload_n 0, 1) := by decide +kernel
theorem d_BT_read_27 : decode prog_1_method_44_code 27 = .ok (.iload_n 1, 1) := by decide +kernel
theorem d_BT_read_29 : decode prog_1_method_44_code 29 = .ok (.iload_n 2, 1) := by decide +kernel
theorem d_BT_read_31 : decode prog_1_method_44_code 31 = .ok (.goto 6, 3) := by decide +kernel
theorem d_BT_read_24 : decode prog_1_method_44_code 24 = .ok (.getfield 17, 3) := by decide +kernel
theorem d_BT_read_20 : decode prog_1_method_44_code 20 = .ok (.ifCond .eq 14, 3) := by decide +kernel
theorem d_BT_read_10 : decode prog_1_method_44_code 10 = .ok (.getfield 23, 3) := by decide +kernel
theorem d_BT_read_4 : decode prog_1_method_44_code 4 = .ok (.ifCond .eq 30, 3) := by decide +kernel
theorem d_BT_read_14 : decode prog_1_method_44_code 14 = .ok (.iaload, 1) := by decide +kernel
theorem d_BT_read_28 : decode prog_1_method_44_code 28 = .ok (.aaload, 1) := by decide +kernel
theorem d_BT_read_30 : decode prog_1_method_44_code 30 = .ok (.laload, 1) := by decide +kernel
set_option maxRecDepth 10000 in
set_option maxHeartbeats 4000000 in
theorem w_BT_read {q : QT} {z : ZT} {a1 : Int32} {a2 : Int32} {μ : Mm} {ν : Ml} (C : Ctx sdX q z prog_1_method_44_code "BesideTom" 3 2 (some (FieldType.long))) : R sdX q z 3 (φL μ ν) (F_BT_read a1 a2 μ ν) μ ν 0 [(0, .ref (q.2.2.1 0)), (1, .int a1), (2, .int a2)] [] := by
  unfold F_BT_read
  refine R_iload_n C 1 d_BT_read_0 rfl rfl ?_
  refine R_bind (fun v1 h2 => ?_)
  refine R_callS C cf_BT_isTape ml_BT_276 sm_BT_isTape (c_BT_isTape (gk C) h2) (by decide) (by decide) rfl rfl (Nat.le_of_ble_eq_true rfl) d_BT_read_1 ?_
  refine R_if_eq C d_BT_read_4 (tgt := 34) (by decide) ?_ ?_
  · skip
    refine R_ldc2 C k_BT_254 d_BT_read_34 ?_
    exact R_lret C rfl d_BT_read_37
  · skip
    refine R_iload_n C 2 d_BT_read_7 rfl rfl ?_
    refine R_iconst C d_BT_read_8 (v := 0) (by decide +kernel) ?_
    refine R_aload_n C 0 d_BT_read_9 rfl rfl ?_
    refine gf_BT_sizes C fl_BT_23 d_BT_read_10 ?_
    refine R_iload_n C 1 d_BT_read_13 rfl rfl ?_
    refine R_iald C xm_22 (xc_22 q _ _) d_BT_read_14 (fun v3 => ?_)
    refine R_iconst C d_BT_read_15 (v := 1) (by decide +kernel) ?_
    refine R_isub C d_BT_read_16 ?_
    refine R_bind (fun v4 h5 => ?_)
    refine R_callS C cf_BT_within ml_BT_76 sm_BT_within (c_BT_within (gk C) h5) (by decide) (by decide) rfl rfl (Nat.le_of_ble_eq_true rfl) d_BT_read_17 ?_
    refine R_if_eq C d_BT_read_20 (tgt := 34) (by decide) ?_ ?_
    · skip
      refine R_ldc2 C k_BT_254 d_BT_read_34 ?_
      exact R_lret C rfl d_BT_read_37
    · skip
      refine R_aload_n C 0 d_BT_read_23 rfl rfl ?_
      refine gf_BT_tapes C fl_BT_17 d_BT_read_24 ?_
      refine R_iload_n C 1 d_BT_read_27 rfl rfl ?_
      refine R_aald C (ti := 5) (ty := (.array .long)) xm_14 (xc_14 q _ _) rfl rfl d_BT_read_28 (fun c6 hc6 => ?_)
      refine R_iload_n C 2 d_BT_read_29 rfl rfl ?_
      refine R_lald C (pe_0 (tp_in hc6)) (pc_0 (tp_in hc6) q _ _) d_BT_read_30 (fun v7 => ?_)
      refine R_goto C d_BT_read_31 (tgt := 37) (by decide) ?_
      exact R_lret C rfl d_BT_read_37
theorem c_BT_read {q : QT} (hg : GOk sdX q) {a1 : Int32} {a2 : Int32} {μ : Mm} {ν : Ml} {o : Int64} (ho : F_BT_read a1 a2 μ ν = some o) : Ct sdX q y_BT_read prog_1_method_44_code 3 (some (FieldType.long)) 2 [.ref (q.2.2.1 0), .int a1, .int a2] μ ν ((φL μ ν) o).1 ((φL μ ν) o).2.1 ((φL μ ν) o).2.2 := Ct_of rfl hg (fun z C => w_BT_read C) (Nat.le_of_ble_eq_true rfl) ho
def F_BT_shift (a1 : Int32) (a2 : Int32) (a3 : Int32) (a4 : Int32) (a5 : Int32) (μ : Mm) (ν : Ml) : Option (Int32 × Ml) := (F_BT_isTape a1).bind fun v1 => (if v1 = 0 then some ((-1), ν) else (F_BT_isTape a3).bind fun v3 => (if v3 = 0 then some ((-1), ν) else (rdI (μ 21) 6 a1).bind fun v5 => (if v5 = (-1) then some ((-11), ν) else (rdI (μ 21) 6 a3).bind fun v6 => (if v6 = (-1) then some ((-11), ν) else (rdI (μ 21) 6 a1).bind fun v7 => (rdI (μ 21) 6 a3).bind fun v8 => (if v7 = v8 then (F_BT_isRange a1 a2 a5 μ).bind fun v9 => (if v9 = 0 then some ((-13), ν) else (F_BT_isRange a3 a4 a5 μ).bind fun v11 => (if v11 = 0 then some ((-13), ν) else (rdR 15 6 a1).bind fun c13 => (rdR 15 6 a3).bind fun c14 => (cpL ν c13 60 a2 c14 60 a4 a5).bind fun ν15 => some (a5, ν15))) else some ((-12), ν))))))
theorem d_BT_shift_0 : decode prog_1_method_45_code 0 = .ok (.iload_n 1, 1) := by decide +kernel
theorem d_BT_shift_1 : decode prog_1_method_45_code 1 = .ok (.invokestatic 276, 3) := by decide +kernel
theorem d_BT_shift_14 : decode prog_1_method_45_code 14 = .ok (.iconst (-1), 1) := by decide +kernel
theorem d_BT_shift_15 : decode prog_1_method_45_code 15 = .ok (.ireturn, 1) := by decide +kernel
theorem d_BT_shift_7 : decode prog_1_method_45_code 7 = .ok (.iload_n 3, 1) := by decide +kernel
theorem d_BT_shift_8 : decode prog_1_method_45_code 8 = .ok (.invokestatic 276, 3) := by decide +kernel
theorem d_BT_shift_16 : decode prog_1_method_45_code 16 = .ok (.aload_n 0, 1) := by decide +kernel
theorem d_BT_shift_20 : decode prog_1_method_45_code 20 = .ok (.iload_n 1, 1) := by decide +kernel
theorem d_BT_shift_22 : decode prog_1_method_45_code 22 = .ok (.iconst (-1), 1) := by decide +kernel
theorem d_BT_shift_36 : decode prog_1_method_45_code 36 = .ok (.bipush (-11), 2) := by decide +kernel
theorem d_BT_shift_38 : decode prog_1_method_45_code 38 = .ok (.ireturn, 1) := by decide +kernel
theorem d_BT_shift_26 : decode prog_1_method_45_code 26 = .ok (.aload_n 0, 1) := by decide +kernel
theorem d_BT_shift_30 : decode prog_1_method_45_code 30 = .ok (.iload_n 3, 1) := by decide +kernel
theorem d_BT_shift_32 : decode prog_1_method_45_code 32 = .ok (.iconst (-1), 1) := by decide +kernel
theorem d_BT_shift_39 : decode prog_1_method_45_code 39 = .ok (.aload_n 0, 1) := by decide +kernel
theorem d_BT_shift_43 : decode prog_1_method_45_code 43 = .ok (.iload_n 1, 1) := by decide +kernel
theorem d_BT_shift_45 : decode prog_1_method_45_code 45 = .ok (.aload_n 0, 1) := by decide +kernel
theorem d_BT_shift_49 : decode prog_1_method_45_code 49 = .ok (.iload_n 3, 1) := by decide +kernel
theorem d_BT_shift_57 : decode prog_1_method_45_code 57 = .ok (.aload_n 0, 1) := by decide +kernel
theorem d_BT_shift_58 : decode prog_1_method_45_code 58 = .ok (.iload_n 1, 1) := by decide +kernel
theorem d_BT_shift_59 : decode prog_1_method_45_code 59 = .ok (.iload_n 2, 1) := by decide +kernel
theorem d_BT_shift_60 : decode prog_1_method_45_code 60 = .ok (.iload 5, 2) := by decide +kernel
theorem d_BT_shift_62 : decode prog_1_method_45_code 62 = .ok (.invokevirtual 321, 3) := by decide +kernel
theorem d_BT_shift_80 : decode prog_1_method_45_code 80 = .ok (.bipush (-13), 2) := by decide +kernel
theorem d_BT_shift_82 : decode prog_1_method_45_code 82 = .ok (.ireturn, 1) := by decide +kernel
theorem d_BT_shift_68 : decode prog_1_method_45_code 68 = .ok (.aload_n 0, 1) := by decide +kernel
theorem d_BT_shift_69 : decode prog_1_method_45_code 69 = .ok (.iload_n 3, 1) := by decide +kernel
theorem d_BT_shift_70 : decode prog_1_method_45_code 70 = .ok (.iload 4, 2) := by decide +kernel
theorem d_BT_shift_72 : decode prog_1_method_45_code 72 = .ok (.iload 5, 2) := by decide +kernel
theorem d_BT_shift_74 : decode prog_1_method_45_code 74 = .ok (.invokevirtual 321, 3) := by decide +kernel
theorem d_BT_shift_83 : decode prog_1_method_45_code 83 = .ok (.aload_n 0, 1) := by decide +kernel
theorem d_BT_shift_87 : decode prog_1_method_45_code 87 = .ok (.iload_n 1, 1) := by decide +kernel
theorem d_BT_shift_89 : decode prog_1_method_45_code 89 = .ok (.iload_n 2, 1) := by decide +kernel
theorem d_BT_shift_90 : decode prog_1_method_45_code 90 = .ok (.aload_n 0, 1) := by decide +kernel
theorem d_BT_shift_94 : decode prog_1_method_45_code 94 = .ok (.iload_n 3, 1) := by decide +kernel
theorem d_BT_shift_96 : decode prog_1_method_45_code 96 = .ok (.iload 4, 2) := by decide +kernel
theorem d_BT_shift_98 : decode prog_1_method_45_code 98 = .ok (.iload 5, 2) := by decide +kernel
theorem d_BT_shift_100 : decode prog_1_method_45_code 100 = .ok (.invokestatic 215, 3) := by decide +kernel
theorem d_BT_shift_103 : decode prog_1_method_45_code 103 = .ok (.iload 5, 2) := by decide +kernel
theorem d_BT_shift_105 : decode prog_1_method_45_code 105 = .ok (.ireturn, 1) := by decide +kernel
theorem d_BT_shift_91 : decode prog_1_method_45_code 91 = .ok (.getfield 17, 3) := by decide +kernel
theorem d_BT_shift_84 : decode prog_1_method_45_code 84 = .ok (.getfield 17, 3) := by decide +kernel
theorem d_BT_shift_77 : decode prog_1_method_45_code 77 = .ok (.ifCond .ne 6, 3) := by decide +kernel
theorem d_BT_shift_65 : decode prog_1_method_45_code 65 = .ok (.ifCond .eq 15, 3) := by decide +kernel
theorem d_BT_shift_54 : decode prog_1_method_45_code 54 = .ok (.bipush (-12), 2) := by decide +kernel
theorem d_BT_shift_56 : decode prog_1_method_45_code 56 = .ok (.ireturn, 1) := by decide +kernel
theorem d_BT_shift_51 : decode prog_1_method_45_code 51 = .ok (.if_icmp .eq 6, 3) := by decide +kernel
theorem d_BT_shift_46 : decode prog_1_method_45_code 46 = .ok (.getfield 20, 3) := by decide +kernel
theorem d_BT_shift_40 : decode prog_1_method_45_code 40 = .ok (.getfield 20, 3) := by decide +kernel
theorem d_BT_shift_33 : decode prog_1_method_45_code 33 = .ok (.if_icmp .ne 6, 3) := by decide +kernel
theorem d_BT_shift_27 : decode prog_1_method_45_code 27 = .ok (.getfield 20, 3) := by decide +kernel
theorem d_BT_shift_23 : decode prog_1_method_45_code 23 = .ok (.if_icmp .eq 13, 3) := by decide +kernel
theorem d_BT_shift_17 : decode prog_1_method_45_code 17 = .ok (.getfield 20, 3) := by decide +kernel
theorem d_BT_shift_11 : decode prog_1_method_45_code 11 = .ok (.ifCond .ne 5, 3) := by decide +kernel
theorem d_BT_shift_4 : decode prog_1_method_45_code 4 = .ok (.ifCond .eq 10, 3) := by decide +kernel
theorem d_BT_shift_21 : decode prog_1_method_45_code 21 = .ok (.iaload, 1) := by decide +kernel
theorem d_BT_shift_31 : decode prog_1_method_45_code 31 = .ok (.iaload, 1) := by decide +kernel
theorem d_BT_shift_44 : decode prog_1_method_45_code 44 = .ok (.iaload, 1) := by decide +kernel
theorem d_BT_shift_50 : decode prog_1_method_45_code 50 = .ok (.iaload, 1) := by decide +kernel
theorem d_BT_shift_88 : decode prog_1_method_45_code 88 = .ok (.aaload, 1) := by decide +kernel
theorem d_BT_shift_95 : decode prog_1_method_45_code 95 = .ok (.aaload, 1) := by decide +kernel
set_option maxRecDepth 10000 in
set_option maxHeartbeats 4000000 in
theorem w_BT_shift {q : QT} {z : ZT} {a1 : Int32} {a2 : Int32} {a3 : Int32} {a4 : Int32} {a5 : Int32} {μ : Mm} {ν : Ml} (C : Ctx sdX q z prog_1_method_45_code "BesideTom" 6 2 (some (FieldType.int))) : R sdX q z 6 (φIl μ) (F_BT_shift a1 a2 a3 a4 a5 μ ν) μ ν 0 [(0, .ref (q.2.2.1 0)), (1, .int a1), (2, .int a2), (3, .int a3), (4, .int a4), (5, .int a5)] [] := by
  unfold F_BT_shift
  refine R_iload_n C 1 d_BT_shift_0 rfl rfl ?_
  refine R_bind (fun v1 h2 => ?_)
  refine R_callS C cf_BT_isTape ml_BT_276 sm_BT_isTape (c_BT_isTape (gk C) h2) (by decide) (by decide) rfl rfl (Nat.le_of_ble_eq_true rfl) d_BT_shift_1 ?_
  refine R_if_eq C d_BT_shift_4 (tgt := 14) (by decide) ?_ ?_
  · skip
    refine R_iconst C d_BT_shift_14 (v := (-1)) (by decide +kernel) ?_
    exact R_iret C rfl d_BT_shift_15
  · skip
    refine R_iload_n C 3 d_BT_shift_7 rfl rfl ?_
    refine R_bind (fun v3 h4 => ?_)
    refine R_callS C cf_BT_isTape ml_BT_276 sm_BT_isTape (c_BT_isTape (gk C) h4) (by decide) (by decide) rfl rfl (Nat.le_of_ble_eq_true rfl) d_BT_shift_8 ?_
    refine R_if_ne C d_BT_shift_11 (tgt := 16) (by decide) ?_ ?_
    · skip
      refine R_aload_n C 0 d_BT_shift_16 rfl rfl ?_
      refine gf_BT_sorts C fl_BT_20 d_BT_shift_17 ?_
      refine R_iload_n C 1 d_BT_shift_20 rfl rfl ?_
      refine R_iald C xm_21 (xc_21 q _ _) d_BT_shift_21 (fun v5 => ?_)
      refine R_iconst C d_BT_shift_22 (v := (-1)) (by decide +kernel) ?_
      refine R_icmp_eq C d_BT_shift_23 (tgt := 36) (by decide) ?_ ?_
      · skip
        refine R_bipush C d_BT_shift_36 (v := (-11)) (by decide +kernel) ?_
        exact R_iret C rfl d_BT_shift_38
      · skip
        refine R_aload_n C 0 d_BT_shift_26 rfl rfl ?_
        refine gf_BT_sorts C fl_BT_20 d_BT_shift_27 ?_
        refine R_iload_n C 3 d_BT_shift_30 rfl rfl ?_
        refine R_iald C xm_21 (xc_21 q _ _) d_BT_shift_31 (fun v6 => ?_)
        refine R_iconst C d_BT_shift_32 (v := (-1)) (by decide +kernel) ?_
        refine R_icmp_ne C d_BT_shift_33 (tgt := 39) (by decide) ?_ ?_
        · skip
          refine R_aload_n C 0 d_BT_shift_39 rfl rfl ?_
          refine gf_BT_sorts C fl_BT_20 d_BT_shift_40 ?_
          refine R_iload_n C 1 d_BT_shift_43 rfl rfl ?_
          refine R_iald C xm_21 (xc_21 q _ _) d_BT_shift_44 (fun v7 => ?_)
          refine R_aload_n C 0 d_BT_shift_45 rfl rfl ?_
          refine gf_BT_sorts C fl_BT_20 d_BT_shift_46 ?_
          refine R_iload_n C 3 d_BT_shift_49 rfl rfl ?_
          refine R_iald C xm_21 (xc_21 q _ _) d_BT_shift_50 (fun v8 => ?_)
          refine R_icmp_eq C d_BT_shift_51 (tgt := 57) (by decide) ?_ ?_
          · skip
            refine R_aload_n C 0 d_BT_shift_57 rfl rfl ?_
            refine R_iload_n C 1 d_BT_shift_58 rfl rfl ?_
            refine R_iload_n C 2 d_BT_shift_59 rfl rfl ?_
            refine R_iload C 5 d_BT_shift_60 rfl ?_
            refine R_bind (fun v9 h10 => ?_)
            refine R_callV C xm_0 (xc_0 q _ _) rfl cf_BT_isRange rfl ml_BT_321 im_BT_isRange sl_BT_BT_isRange_BT_isRange (c_BT_isRange (gk C) h10) (by decide) (by decide) rfl rfl (Nat.le_of_ble_eq_true rfl) d_BT_shift_62 ?_
            refine R_if_eq C d_BT_shift_65 (tgt := 80) (by decide) ?_ ?_
            · skip
              refine R_bipush C d_BT_shift_80 (v := (-13)) (by decide +kernel) ?_
              exact R_iret C rfl d_BT_shift_82
            · skip
              refine R_aload_n C 0 d_BT_shift_68 rfl rfl ?_
              refine R_iload_n C 3 d_BT_shift_69 rfl rfl ?_
              refine R_iload C 4 d_BT_shift_70 rfl ?_
              refine R_iload C 5 d_BT_shift_72 rfl ?_
              refine R_bind (fun v11 h12 => ?_)
              refine R_callV C xm_0 (xc_0 q _ _) rfl cf_BT_isRange rfl ml_BT_321 im_BT_isRange sl_BT_BT_isRange_BT_isRange (c_BT_isRange (gk C) h12) (by decide) (by decide) rfl rfl (Nat.le_of_ble_eq_true rfl) d_BT_shift_74 ?_
              refine R_if_ne C d_BT_shift_77 (tgt := 83) (by decide) ?_ ?_
              · skip
                refine R_aload_n C 0 d_BT_shift_83 rfl rfl ?_
                refine gf_BT_tapes C fl_BT_17 d_BT_shift_84 ?_
                refine R_iload_n C 1 d_BT_shift_87 rfl rfl ?_
                refine R_aald C (ti := 5) (ty := (.array .long)) xm_14 (xc_14 q _ _) rfl rfl d_BT_shift_88 (fun c13 hc13 => ?_)
                refine R_iload_n C 2 d_BT_shift_89 rfl rfl ?_
                refine R_aload_n C 0 d_BT_shift_90 rfl rfl ?_
                refine gf_BT_tapes C fl_BT_17 d_BT_shift_91 ?_
                refine R_iload_n C 3 d_BT_shift_94 rfl rfl ?_
                refine R_aald C (ti := 5) (ty := (.array .long)) xm_14 (xc_14 q _ _) rfl rfl d_BT_shift_95 (fun c14 hc14 => ?_)
                refine R_iload C 4 d_BT_shift_96 rfl ?_
                refine R_iload C 5 d_BT_shift_98 rfl ?_
                refine R_copyl C ml_BT_215 nt_Sys_arraycopy sm_Sys_arraycopy in_Sys (by decide) (Nat.le_of_ble_eq_true rfl) (pe_0 (tp_in hc13)) (pe_0 (tp_in hc14)) (fun h => pc_0 (tp_in hc13) q _ h) (fun h => pc_0 (tp_in hc14) q _ h) d_BT_shift_100 (fun ν15 => ?_)
                refine R_iload C 5 d_BT_shift_103 rfl ?_
                exact R_iret C rfl d_BT_shift_105
              · skip
                refine R_bipush C d_BT_shift_80 (v := (-13)) (by decide +kernel) ?_
                exact R_iret C rfl d_BT_shift_82
          · skip
            refine R_bipush C d_BT_shift_54 (v := (-12)) (by decide +kernel) ?_
            exact R_iret C rfl d_BT_shift_56
        · skip
          refine R_bipush C d_BT_shift_36 (v := (-11)) (by decide +kernel) ?_
          exact R_iret C rfl d_BT_shift_38
    · skip
      refine R_iconst C d_BT_shift_14 (v := (-1)) (by decide +kernel) ?_
      exact R_iret C rfl d_BT_shift_15
theorem c_BT_shift {q : QT} (hg : GOk sdX q) {a1 : Int32} {a2 : Int32} {a3 : Int32} {a4 : Int32} {a5 : Int32} {μ : Mm} {ν : Ml} {o : Int32 × Ml} (ho : F_BT_shift a1 a2 a3 a4 a5 μ ν = some o) : Ct sdX q y_BT_shift prog_1_method_45_code 6 (some (FieldType.int)) 2 [.ref (q.2.2.1 0), .int a1, .int a2, .int a3, .int a4, .int a5] μ ν ((φIl μ) o).1 ((φIl μ) o).2.1 ((φIl μ) o).2.2 := Ct_of rfl hg (fun z C => w_BT_shift C) (Nat.le_of_ble_eq_true rfl) ho
