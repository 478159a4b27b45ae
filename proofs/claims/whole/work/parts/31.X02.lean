def F_PK_voice (this : Nat) (a1 : Int32) (a2 : Int32) (a3 : Int32) (a4 : Int32) : Option (Int32) := some (a1 * a2)
theorem d_PK_voice_0 : decode prog_3_method_3_code 0 = .ok (.iload_n 1, 1) := by decide +kernel
theorem d_PK_voice_1 : decode prog_3_method_3_code 1 = .ok (.iload_n 2, 1) := by decide +kernel
theorem d_PK_voice_2 : decode prog_3_method_3_code 2 = .ok (.imul, 1) := by decide +kernel
theorem d_PK_voice_3 : decode prog_3_method_3_code 3 = .ok (.ireturn, 1) := by decide +kernel
set_option maxRecDepth 10000 in
set_option maxHeartbeats 4000000 in
theorem w_PK_voice {q : QT} {z : ZT} {this : Nat} {a1 : Int32} {a2 : Int32} {a3 : Int32} {a4 : Int32} {μ : Mm} {ν : Ml} (C : Ctx sdX q z prog_3_method_3_code "BesideTom$PupilKind" 5 0 (some (FieldType.int))) (h_this : this ∈ kd_PK) : R sdX q z 5 (φI μ ν) (F_PK_voice this a1 a2 a3 a4) μ ν 0 [(0, .ref (q.2.2.1 this)), (1, .int a1), (2, .int a2), (3, .int a3), (4, .int a4)] [] := by
  unfold F_PK_voice
  refine R_iload_n C 1 d_PK_voice_0 rfl rfl ?_
  refine R_iload_n C 2 d_PK_voice_1 rfl rfl ?_
  refine R_imul C d_PK_voice_2 ?_
  exact R_iret C rfl d_PK_voice_3
theorem c_PK_voice {q : QT} (hg : GOk sdX q) {this : Nat} {a1 : Int32} {a2 : Int32} {a3 : Int32} {a4 : Int32} {μ : Mm} {ν : Ml} (h_this : this ∈ kd_PK) {o : Int32} (ho : F_PK_voice this a1 a2 a3 a4 = some o) : Ct sdX q y_PK_voice prog_3_method_3_code 5 (some (FieldType.int)) 0 [.ref (q.2.2.1 this), .int a1, .int a2, .int a3, .int a4] μ ν ((φI μ ν) o).1 ((φI μ ν) o).2.1 ((φI μ ν) o).2.2 := Ct_of rfl hg (fun z C => w_PK_voice C h_this) (Nat.le_of_ble_eq_true rfl) ho
def L_Seat_whoHas_2 (f2 : Nat) (f3 : Int32) (μ : Mm) (k : Unit → Option (Int32)) : Nat → Int32 → Option (Int32)
  | 0, _ => none
  | n + 1, s1 => (if (μ f2 1) ≤ s1 then k () else (rdI (μ (f2 + 3)) 6 s1).bind fun v4 => (if v4 = f3 then some s1 else L_Seat_whoHas_2 f2 f3 μ k n (s1 + 1)))
def F_Seat_whoHas (this : Nat) (a1 : Int32) (μ : Mm) : Option (Int32) := L_Seat_whoHas_2 this a1 μ (fun (_ : Unit) => some (-1)) fu 0
theorem d_Seat_whoHas_0 : decode prog_7_method_8_code 0 = .ok (.iconst 0, 1) := by decide +kernel
theorem d_Seat_whoHas_1 : decode prog_7_method_8_code 1 = .ok (.istore_n 2, 1) := by decide +kernel
theorem d_Seat_whoHas_2 : decode prog_7_method_8_code 2 = .ok (.iload_n 2, 1) := by decide +kernel
theorem d_Seat_whoHas_3 : decode prog_7_method_8_code 3 = .ok (.aload_n 0, 1) := by decide +kernel
theorem d_Seat_whoHas_10 : decode prog_7_method_8_code 10 = .ok (.aload_n 0, 1) := by decide +kernel
theorem d_Seat_whoHas_14 : decode prog_7_method_8_code 14 = .ok (.iload_n 2, 1) := by decide +kernel
theorem d_Seat_whoHas_16 : decode prog_7_method_8_code 16 = .ok (.iload_n 1, 1) := by decide +kernel
theorem d_Seat_whoHas_22 : decode prog_7_method_8_code 22 = .ok (.iinc 2 1, 3) := by decide +kernel
theorem d_Seat_whoHas_25 : decode prog_7_method_8_code 25 = .ok (.goto (-23), 3) := by decide +kernel
theorem d_Seat_whoHas_20 : decode prog_7_method_8_code 20 = .ok (.iload_n 2, 1) := by decide +kernel
theorem d_Seat_whoHas_21 : decode prog_7_method_8_code 21 = .ok (.ireturn, 1) := by decide +kernel
theorem d_Seat_whoHas_17 : decode prog_7_method_8_code 17 = .ok (.if_icmp .ne 5, 3) := by decide +kernel
theorem d_Seat_whoHas_11 : decode prog_7_method_8_code 11 = .ok (.getfield 28, 3) := by decide +kernel
theorem d_Seat_whoHas_7 : decode prog_7_method_8_code 7 = .ok (.if_icmp .ge 21, 3) := by decide +kernel
theorem d_Seat_whoHas_4 : decode prog_7_method_8_code 4 = .ok (.getfield 59, 3) := by decide +kernel
theorem d_Seat_whoHas_15 : decode prog_7_method_8_code 15 = .ok (.iaload, 1) := by decide +kernel
set_option maxRecDepth 10000 in
set_option maxHeartbeats 4000000 in
theorem W_Seat_whoHas_2 {q : QT} {z : ZT} {μ : Mm} {ν : Ml} {f2 : Nat} {f3 : Int32} {k : Unit → Option (Int32)} (C : Ctx sdX q z prog_7_method_8_code "BesideTom$Seating" 3 0 (some (FieldType.int))) (h_f2 : f2 ∈ seats) (hk : R sdX q z 3 (φI μ ν) (k ()) μ ν 28 [] []) : ∀ (n : Nat) (s1 : Int32), R sdX q z 3 (φI μ ν) (L_Seat_whoHas_2 f2 f3 μ k n s1) μ ν 2 [(2, .int s1), (0, .ref (q.2.2.1 f2)), (1, .int f3)] [] := by
  intro n
  induction n with
  | zero =>
    intros
    exact R_none
  | succ n ih =>
    intro s1
    rw [L_Seat_whoHas_2]
    refine R_iload_n C 0 d_Seat_whoHas_2 rfl rfl ?_
    refine R_aload_n C 1 d_Seat_whoHas_3 rfl rfl ?_
    refine gf_Seat_many C h_f2 fl_Seat_59 d_Seat_whoHas_4 ?_
    refine R_icmp_ge C d_Seat_whoHas_7 (tgt := 28) (by decide) ?_ ?_
    · skip
      exact R_sub [] rfl hk
    · skip
      refine R_aload_n C 1 d_Seat_whoHas_10 rfl rfl ?_
      refine gf_Seat_desk C h_f2 fl_Seat_28 d_Seat_whoHas_11 ?_
      refine R_iload_n C 0 d_Seat_whoHas_14 rfl rfl ?_
      refine R_iald C (se_3 h_f2) (sc_3 h_f2 q _ _) d_Seat_whoHas_15 (fun v4 => ?_)
      refine R_iload_n C 2 d_Seat_whoHas_16 rfl rfl ?_
      refine R_icmp_ne C d_Seat_whoHas_17 (tgt := 22) (by decide) ?_ ?_
      · skip
        refine R_iinc C 0 d_Seat_whoHas_22 rfl (iinc_v _ (v := 1) (by decide +kernel)) (lv' := [(2, .int (s1 + 1)), (0, .ref (q.2.2.1 f2)), (1, .int f3)]) (by decide) rfl ?_
        refine R_goto C d_Seat_whoHas_25 (tgt := 2) (by decide) ?_
        exact R_sub [0, 1, 2] rfl (ih (s1 + 1))
      · skip
        refine R_iload_n C 0 d_Seat_whoHas_20 rfl rfl ?_
        exact R_iret C rfl d_Seat_whoHas_21
theorem d_Seat_whoHas_28 : decode prog_7_method_8_code 28 = .ok (.iconst (-1), 1) := by decide +kernel
theorem d_Seat_whoHas_29 : decode prog_7_method_8_code 29 = .ok (.ireturn, 1) := by decide +kernel
set_option maxRecDepth 10000 in
set_option maxHeartbeats 4000000 in
theorem w_Seat_whoHas {q : QT} {z : ZT} {this : Nat} {a1 : Int32} {μ : Mm} {ν : Ml} (C : Ctx sdX q z prog_7_method_8_code "BesideTom$Seating" 3 0 (some (FieldType.int))) (h_this : this ∈ seats) : R sdX q z 3 (φI μ ν) (F_Seat_whoHas this a1 μ) μ ν 0 [(0, .ref (q.2.2.1 this)), (1, .int a1)] [] := by
  unfold F_Seat_whoHas
  refine R_iconst C d_Seat_whoHas_0 (v := 0) (by decide +kernel) ?_
  refine R_istore_n C (lv' := [(2, .int 0), (0, .ref (q.2.2.1 this)), (1, .int a1)]) d_Seat_whoHas_1 rfl (by decide) rfl ?_
  refine R_sub [0, 1, 2] rfl ?_
  refine W_Seat_whoHas_2 C h_this ?_ fu _
  skip
  refine R_iconst C d_Seat_whoHas_28 (v := (-1)) (by decide +kernel) ?_
  exact R_iret C rfl d_Seat_whoHas_29
theorem c_Seat_whoHas {q : QT} (hg : GOk sdX q) {this : Nat} {a1 : Int32} {μ : Mm} {ν : Ml} (h_this : this ∈ seats) {o : Int32} (ho : F_Seat_whoHas this a1 μ = some o) : Ct sdX q y_Seat_whoHas prog_7_method_8_code 3 (some (FieldType.int)) 0 [.ref (q.2.2.1 this), .int a1] μ ν ((φI μ ν) o).1 ((φI μ ν) o).2.1 ((φI μ ν) o).2.2 := Ct_of rfl hg (fun z C => w_Seat_whoHas C h_this) (Nat.le_of_ble_eq_true rfl) ho
def F_BT_within (a0 : Int32) (a1 : Int32) (a2 : Int32) : Option (Int32) := (if a0 < a1 then some 0 else (if a2 < a0 then some 0 else some 1))
theorem d_BT_within_0 : decode prog_1_method_51_code 0 = .ok (.iload_n 0, 1) := by decide +kernel
theorem d_BT_within_1 : decode prog_1_method_51_code 1 = .ok (.iload_n 1, 1) := by decide +kernel
theorem d_BT_within_14 : decode prog_1_method_51_code 14 = .ok (.iconst 0, 1) := by decide +kernel
theorem d_BT_within_15 : decode prog_1_method_51_code 15 = .ok (.ireturn, 1) := by decide +kernel
theorem d_BT_within_5 : decode prog_1_method_51_code 5 = .ok (.iload_n 0, 1) := by decide +kernel
theorem d_BT_within_6 : decode prog_1_method_51_code 6 = .ok (.iload_n 2, 1) := by decide +kernel
theorem d_BT_within_10 : decode prog_1_method_51_code 10 = .ok (.iconst 1, 1) := by decide +kernel
theorem d_BT_within_11 : decode prog_1_method_51_code 11 = .ok (.goto 4, 3) := by decide +kernel
theorem d_BT_within_7 : decode prog_1_method_51_code 7 = .ok (.if_icmp .gt 7, 3) := by decide +kernel
theorem d_BT_within_2 : decode prog_1_method_51_code 2 = .ok (.if_icmp .lt 12, 3) := by decide +kernel
set_option maxRecDepth 10000 in
set_option maxHeartbeats 4000000 in
theorem w_BT_within {q : QT} {z : ZT} {a0 : Int32} {a1 : Int32} {a2 : Int32} {μ : Mm} {ν : Ml} (C : Ctx sdX q z prog_1_method_51_code "BesideTom" 3 0 (some (FieldType.boolean))) : R sdX q z 3 (φI μ ν) (F_BT_within a0 a1 a2) μ ν 0 [(0, .int a0), (1, .int a1), (2, .int a2)] [] := by
  unfold F_BT_within
  refine R_iload_n C 0 d_BT_within_0 rfl rfl ?_
  refine R_iload_n C 1 d_BT_within_1 rfl rfl ?_
  refine R_icmp_lt C d_BT_within_2 (tgt := 14) (by decide) ?_ ?_
  · skip
    refine R_iconst C d_BT_within_14 (v := 0) (by decide +kernel) ?_
    exact R_zret C (by decide) rfl d_BT_within_15
  · skip
    refine R_iload_n C 0 d_BT_within_5 rfl rfl ?_
    refine R_iload_n C 2 d_BT_within_6 rfl rfl ?_
    refine R_icmp_gt C d_BT_within_7 (tgt := 14) (by decide) ?_ ?_
    · skip
      refine R_iconst C d_BT_within_14 (v := 0) (by decide +kernel) ?_
      exact R_zret C (by decide) rfl d_BT_within_15
    · skip
      refine R_iconst C d_BT_within_10 (v := 1) (by decide +kernel) ?_
      refine R_goto C d_BT_within_11 (tgt := 15) (by decide) ?_
      exact R_zret C (by decide) rfl d_BT_within_15
theorem c_BT_within {q : QT} (hg : GOk sdX q) {a0 : Int32} {a1 : Int32} {a2 : Int32} {μ : Mm} {ν : Ml} {o : Int32} (ho : F_BT_within a0 a1 a2 = some o) : Ct sdX q y_BT_within prog_1_method_51_code 3 (some (FieldType.boolean)) 0 [.int a0, .int a1, .int a2] μ ν ((φI μ ν) o).1 ((φI μ ν) o).2.1 ((φI μ ν) o).2.2 := Ct_of rfl hg (fun z C => w_BT_within C) (Nat.le_of_ble_eq_true rfl) ho
def L_Seat_adds_8 (f2 : Nat) (f3 : Int32) (f4 : Int32) (f5 : Int32) (μ : Mm) (k : Int32 → Option (Int32 × Mm)) : Nat → Int32 → Option (Int32 × Mm)
  | 0, _ => none
  | n + 1, s1 => (if 5 ≤ s1 then k s1 else (F_Seat_whoHas f2 s1 μ).bind fun v6 => (if v6 < 0 then k s1 else L_Seat_adds_8 f2 f3 f4 f5 μ k n (s1 + 1)))
def L_Seat_adds_61 (f14 : Nat) (f15 : Int32) (f16 : Int32) (k : Mm → Option (Int32 × Mm)) : Nat → Int32 → Mm → Option (Int32 × Mm)
  | 0, _, _ => none
  | n + 1, s13, μ17 => (if 4 ≤ s13 then k μ17 else (wrI μ17 (f14 + 5) 24 ((f16 * 4) + s13) 0).bind fun μ18 => L_Seat_adds_61 f14 f15 f16 k n (s13 + 1) μ18)
def F_Seat_adds (this : Nat) (a1 : Int32) (a2 : Int32) (μ : Mm) : Option (Int32 × Mm) := L_Seat_adds_8 this a1 a2 (μ this 1) μ (fun (x8 : Int32) => (wrI μ (this + 1) 6 (μ this 1) a1).bind fun μ9 => (wrI μ9 (this + 2) 6 (μ this 1) a2).bind fun μ10 => (wrI μ10 (this + 3) 6 (μ this 1) x8).bind fun μ11 => (wrI μ11 (this + 4) 6 (μ this 1) 0).bind fun μ12 => L_Seat_adds_61 this a1 (μ this 1) (fun (μ19 : Mm) => (F_Seat_setAway this (μ this 1) 0 μ19).bind fun μ20 => jn (α := Int32) (fun K25 => (if a1 = 5 then K25 ((μ20 this 8) ||| (1 <<< ((μ this 1) &&& 31))) else K25 ((μ20 this 8) &&& ((1 <<< ((μ this 1) &&& 31)) ^^^ (-1))))) (fun (j22 : Int32) => lt_ (up2 μ20 this 8 j22) fun μ23 => lt_ (up2 μ23 this 1 ((μ23 this 1) + 1)) fun μ24 => some ((μ this 1), μ24))) fu 0 μ12) fu 0
theorem d_Seat_adds_0 : decode prog_7_method_3_code 0 = .ok (.aload_n 0, 1) := by decide +kernel
theorem d_Seat_adds_4 : decode prog_7_method_3_code 4 = .ok (.istore_n 3, 1) := by decide +kernel
theorem d_Seat_adds_5 : decode prog_7_method_3_code 5 = .ok (.iconst 0, 1) := by decide +kernel
theorem d_Seat_adds_6 : decode prog_7_method_3_code 6 = .ok (.istore 4, 2) := by decide +kernel
theorem d_Seat_adds_8 : decode prog_7_method_3_code 8 = .ok (.iload 4, 2) := by decide +kernel
theorem d_Seat_adds_10 : decode prog_7_method_3_code 10 = .ok (.iconst 5, 1) := by decide +kernel
theorem d_Seat_adds_14 : decode prog_7_method_3_code 14 = .ok (.aload_n 0, 1) := by decide +kernel
theorem d_Seat_adds_15 : decode prog_7_method_3_code 15 = .ok (.iload 4, 2) := by decide +kernel
theorem d_Seat_adds_17 : decode prog_7_method_3_code 17 = .ok (.invokevirtual 84, 3) := by decide +kernel
theorem d_Seat_adds_23 : decode prog_7_method_3_code 23 = .ok (.iinc 4 1, 3) := by decide +kernel
theorem d_Seat_adds_26 : decode prog_7_method_3_code 26 = .ok (.goto (-18), 3) := by decide +kernel
theorem d_Seat_adds_20 : decode prog_7_method_3_code 20 = .ok (.ifCond .lt 9, 3) := by decide +kernel
theorem d_Seat_adds_11 : decode prog_7_method_3_code 11 = .ok (.if_icmp .ge 18, 3) := by decide +kernel
set_option maxRecDepth 10000 in
set_option maxHeartbeats 4000000 in
theorem W_Seat_adds_8 {q : QT} {z : ZT} {μ : Mm} {ν : Ml} {f2 : Nat} {f3 : Int32} {f4 : Int32} {f5 : Int32} {k : Int32 → Option (Int32 × Mm)} (C : Ctx sdX q z prog_7_method_3_code "BesideTom$Seating" 6 1 (some (FieldType.int))) (h_f2 : f2 ∈ seats) (hk : ∀ (e0_ : Int32), R sdX q z 6 (φIm ν) (k e0_) μ ν 29 [(0, .ref (q.2.2.1 f2)), (1, .int f3), (2, .int f4), (3, .int f5), (4, .int e0_)] []) : ∀ (n : Nat) (s1 : Int32), R sdX q z 6 (φIm ν) (L_Seat_adds_8 f2 f3 f4 f5 μ k n s1) μ ν 8 [(4, .int s1), (0, .ref (q.2.2.1 f2)), (1, .int f3), (2, .int f4), (3, .int f5)] [] := by
  intro n
  induction n with
  | zero =>
    intros
    exact R_none
  | succ n ih =>
    intro s1
    rw [L_Seat_adds_8]
    refine R_iload C 0 d_Seat_adds_8 rfl ?_
    refine R_iconst C d_Seat_adds_10 (v := 5) (by decide +kernel) ?_
    refine R_icmp_ge C d_Seat_adds_11 (tgt := 29) (by decide) ?_ ?_
    · skip
      exact R_sub [1, 2, 3, 4, 0] rfl (hk s1)
    · skip
      refine R_aload_n C 1 d_Seat_adds_14 rfl rfl ?_
      refine R_iload C 0 d_Seat_adds_15 rfl ?_
      refine R_bind (fun v6 h7 => ?_)
      refine R_callV C (se_0 h_f2) (sc_0 h_f2 q _ _) rfl cf_Seat_whoHas rfl ml_Seat_84 im_Seat_whoHas sl_Seat_Seat_whoHas_Seat_whoHas (c_Seat_whoHas (gk C) h_f2 h7) (by decide) (by decide) rfl rfl (Nat.le_of_ble_eq_true rfl) d_Seat_adds_17 ?_
      refine R_if_lt C d_Seat_adds_20 (tgt := 29) (by decide) ?_ ?_
      · skip
        exact R_sub [1, 2, 3, 4, 0] rfl (hk s1)
      · skip
        refine R_iinc C 0 d_Seat_adds_23 rfl (iinc_v _ (v := 1) (by decide +kernel)) (lv' := [(4, .int (s1 + 1)), (0, .ref (q.2.2.1 f2)), (1, .int f3), (2, .int f4), (3, .int f5)]) (by decide) rfl ?_
        refine R_goto C d_Seat_adds_26 (tgt := 8) (by decide) ?_
        exact R_sub [0, 1, 2, 3, 4] rfl (ih (s1 + 1))
theorem d_Seat_adds_29 : decode prog_7_method_3_code 29 = .ok (.aload_n 0, 1) := by decide +kernel
theorem d_Seat_adds_33 : decode prog_7_method_3_code 33 = .ok (.iload_n 3, 1) := by decide +kernel
theorem d_Seat_adds_34 : decode prog_7_method_3_code 34 = .ok (.iload_n 1, 1) := by decide +kernel
theorem d_Seat_adds_36 : decode prog_7_method_3_code 36 = .ok (.aload_n 0, 1) := by decide +kernel
theorem d_Seat_adds_40 : decode prog_7_method_3_code 40 = .ok (.iload_n 3, 1) := by decide +kernel
theorem d_Seat_adds_41 : decode prog_7_method_3_code 41 = .ok (.iload_n 2, 1) := by decide +kernel
theorem d_Seat_adds_43 : decode prog_7_method_3_code 43 = .ok (.aload_n 0, 1) := by decide +kernel
theorem d_Seat_adds_47 : decode prog_7_method_3_code 47 = .ok (.iload_n 3, 1) := by decide +kernel
theorem d_Seat_adds_48 : decode prog_7_method_3_code 48 = .ok (.iload 4, 2) := by decide +kernel
theorem d_Seat_adds_51 : decode prog_7_method_3_code 51 = .ok (.aload_n 0, 1) := by decide +kernel
theorem d_Seat_adds_55 : decode prog_7_method_3_code 55 = .ok (.iload_n 3, 1) := by decide +kernel
theorem d_Seat_adds_56 : decode prog_7_method_3_code 56 = .ok (.iconst 0, 1) := by decide +kernel
theorem d_Seat_adds_58 : decode prog_7_method_3_code 58 = .ok (.iconst 0, 1) := by decide +kernel
theorem d_Seat_adds_59 : decode prog_7_method_3_code 59 = .ok (.istore 5, 2) := by decide +kernel
theorem d_Seat_adds_61 : decode prog_7_method_3_code 61 = .ok (.iload 5, 2) := by decide +kernel
theorem d_Seat_adds_63 : decode prog_7_method_3_code 63 = .ok (.iconst 4, 1) := by decide +kernel
theorem d_Seat_adds_67 : decode prog_7_method_3_code 67 = .ok (.aload_n 0, 1) := by decide +kernel
theorem d_Seat_adds_71 : decode prog_7_method_3_code 71 = .ok (.iload_n 3, 1) := by decide +kernel
theorem d_Seat_adds_72 : decode prog_7_method_3_code 72 = .ok (.iconst 4, 1) := by decide +kernel
theorem d_Seat_adds_73 : decode prog_7_method_3_code 73 = .ok (.imul, 1) := by decide +kernel
theorem d_Seat_adds_74 : decode prog_7_method_3_code 74 = .ok (.iload 5, 2) := by decide +kernel
theorem d_Seat_adds_76 : decode prog_7_method_3_code 76 = .ok (.iadd, 1) := by decide +kernel
theorem d_Seat_adds_77 : decode prog_7_method_3_code 77 = .ok (.iconst 0, 1) := by decide +kernel
theorem d_Seat_adds_79 : decode prog_7_method_3_code 79 = .ok (.iinc 5 1, 3) := by decide +kernel
theorem d_Seat_adds_82 : decode prog_7_method_3_code 82 = .ok (.goto (-21), 3) := by decide +kernel
theorem d_Seat_adds_78 : decode prog_7_method_3_code 78 = .ok (.iastore, 1) := by decide +kernel
theorem d_Seat_adds_68 : decode prog_7_method_3_code 68 = .ok (.getfield 34, 3) := by decide +kernel
theorem d_Seat_adds_64 : decode prog_7_method_3_code 64 = .ok (.if_icmp .ge 21, 3) := by decide +kernel
set_option maxRecDepth 10000 in
set_option maxHeartbeats 4000000 in
theorem W_Seat_adds_61 {q : QT} {z : ZT} {ν : Ml} {f14 : Nat} {f15 : Int32} {f16 : Int32} {k : Mm → Option (Int32 × Mm)} (C : Ctx sdX q z prog_7_method_3_code "BesideTom$Seating" 6 1 (some (FieldType.int))) (h_f14 : f14 ∈ seats) (hk : ∀ (me_ : Mm), R sdX q z 6 (φIm ν) (k me_) me_ ν 85 [(0, .ref (q.2.2.1 f14)), (1, .int f15), (3, .int f16)] []) : ∀ (n : Nat) (s13 : Int32) (μ17 : Mm), R sdX q z 6 (φIm ν) (L_Seat_adds_61 f14 f15 f16 k n s13 μ17) μ17 ν 61 [(5, .int s13), (0, .ref (q.2.2.1 f14)), (1, .int f15), (3, .int f16)] [] := by
  intro n
  induction n with
  | zero =>
    intros
    exact R_none
  | succ n ih =>
    intro s13 μ17
    rw [L_Seat_adds_61]
    refine R_iload C 0 d_Seat_adds_61 rfl ?_
    refine R_iconst C d_Seat_adds_63 (v := 4) (by decide +kernel) ?_
    refine R_icmp_ge C d_Seat_adds_64 (tgt := 85) (by decide) ?_ ?_
    · skip
      exact R_sub [1, 2, 3] rfl (hk μ17)
    · skip
      refine R_aload_n C 1 d_Seat_adds_67 rfl rfl ?_
      refine gf_Seat_lines C h_f14 fl_Seat_34 d_Seat_adds_68 ?_
      refine R_iload_n C 3 d_Seat_adds_71 rfl rfl ?_
      refine R_iconst C d_Seat_adds_72 (v := 4) (by decide +kernel) ?_
      refine R_imul C d_Seat_adds_73 ?_
      refine R_iload C 0 d_Seat_adds_74 rfl ?_
      refine R_iadd C d_Seat_adds_76 ?_
      refine R_iconst C d_Seat_adds_77 (v := 0) (by decide +kernel) ?_
      refine R_iast C (se_5 h_f14) (fun h => sc_5 h_f14 q h _) d_Seat_adds_78 (fun μ18 => ?_)
      refine R_iinc C 0 d_Seat_adds_79 rfl (iinc_v _ (v := 1) (by decide +kernel)) (lv' := [(5, .int (s13 + 1)), (0, .ref (q.2.2.1 f14)), (1, .int f15), (3, .int f16)]) (by decide) rfl ?_
      refine R_goto C d_Seat_adds_82 (tgt := 61) (by decide) ?_
      exact R_sub [0, 1, 2, 3] rfl (ih (s13 + 1) μ18)
theorem d_Seat_adds_85 : decode prog_7_method_3_code 85 = .ok (.aload_n 0, 1) := by decide +kernel
theorem d_Seat_adds_86 : decode prog_7_method_3_code 86 = .ok (.iload_n 3, 1) := by decide +kernel
theorem d_Seat_adds_87 : decode prog_7_method_3_code 87 = .ok (.iconst 0, 1) := by decide +kernel
theorem d_Seat_adds_88 : decode prog_7_method_3_code 88 = .ok (.invokevirtual 88, 3) := by decide +kernel
theorem d_Seat_adds_91 : decode prog_7_method_3_code 91 = .ok (.aload_n 0, 1) := by decide +kernel
theorem d_Seat_adds_92 : decode prog_7_method_3_code 92 = .ok (.iload_n 1, 1) := by decide +kernel
theorem d_Seat_adds_93 : decode prog_7_method_3_code 93 = .ok (.iconst 5, 1) := by decide +kernel
theorem d_Seat_adds_108 : decode prog_7_method_3_code 108 = .ok (.aload_n 0, 1) := by decide +kernel
theorem d_Seat_adds_112 : decode prog_7_method_3_code 112 = .ok (.iconst 1, 1) := by decide +kernel
theorem d_Seat_adds_113 : decode prog_7_method_3_code 113 = .ok (.iload_n 3, 1) := by decide +kernel
theorem d_Seat_adds_114 : decode prog_7_method_3_code 114 = .ok (.ishl, 1) := by decide +kernel
theorem d_Seat_adds_115 : decode prog_7_method_3_code 115 = .ok (.iconst (-1), 1) := by decide +kernel
theorem d_Seat_adds_116 : decode prog_7_method_3_code 116 = .ok (.ixor, 1) := by decide +kernel
theorem d_Seat_adds_117 : decode prog_7_method_3_code 117 = .ok (.iand, 1) := by decide +kernel
theorem d_Seat_adds_109 : decode prog_7_method_3_code 109 = .ok (.getfield 71, 3) := by decide +kernel
theorem d_Seat_adds_97 : decode prog_7_method_3_code 97 = .ok (.aload_n 0, 1) := by decide +kernel
theorem d_Seat_adds_101 : decode prog_7_method_3_code 101 = .ok (.iconst 1, 1) := by decide +kernel
theorem d_Seat_adds_102 : decode prog_7_method_3_code 102 = .ok (.iload_n 3, 1) := by decide +kernel
theorem d_Seat_adds_103 : decode prog_7_method_3_code 103 = .ok (.ishl, 1) := by decide +kernel
theorem d_Seat_adds_104 : decode prog_7_method_3_code 104 = .ok (.ior, 1) := by decide +kernel
theorem d_Seat_adds_105 : decode prog_7_method_3_code 105 = .ok (.goto 13, 3) := by decide +kernel
theorem d_Seat_adds_98 : decode prog_7_method_3_code 98 = .ok (.getfield 71, 3) := by decide +kernel
theorem d_Seat_adds_94 : decode prog_7_method_3_code 94 = .ok (.if_icmp .ne 14, 3) := by decide +kernel
theorem d_Seat_adds_121 : decode prog_7_method_3_code 121 = .ok (.aload_n 0, 1) := by decide +kernel
theorem d_Seat_adds_122 : decode prog_7_method_3_code 122 = .ok (.dup, 1) := by decide +kernel
theorem d_Seat_adds_126 : decode prog_7_method_3_code 126 = .ok (.iconst 1, 1) := by decide +kernel
theorem d_Seat_adds_127 : decode prog_7_method_3_code 127 = .ok (.iadd, 1) := by decide +kernel
theorem d_Seat_adds_131 : decode prog_7_method_3_code 131 = .ok (.iload_n 3, 1) := by decide +kernel
theorem d_Seat_adds_132 : decode prog_7_method_3_code 132 = .ok (.ireturn, 1) := by decide +kernel
theorem d_Seat_adds_123 : decode prog_7_method_3_code 123 = .ok (.getfield 59, 3) := by decide +kernel
theorem d_Seat_adds_57 : decode prog_7_method_3_code 57 = .ok (.iastore, 1) := by decide +kernel
theorem d_Seat_adds_52 : decode prog_7_method_3_code 52 = .ok (.getfield 31, 3) := by decide +kernel
theorem d_Seat_adds_50 : decode prog_7_method_3_code 50 = .ok (.iastore, 1) := by decide +kernel
theorem d_Seat_adds_44 : decode prog_7_method_3_code 44 = .ok (.getfield 28, 3) := by decide +kernel
theorem d_Seat_adds_42 : decode prog_7_method_3_code 42 = .ok (.iastore, 1) := by decide +kernel
theorem d_Seat_adds_37 : decode prog_7_method_3_code 37 = .ok (.getfield 25, 3) := by decide +kernel
theorem d_Seat_adds_35 : decode prog_7_method_3_code 35 = .ok (.iastore, 1) := by decide +kernel
theorem d_Seat_adds_30 : decode prog_7_method_3_code 30 = .ok (.getfield 21, 3) := by decide +kernel
theorem d_Seat_adds_1 : decode prog_7_method_3_code 1 = .ok (.getfield 59, 3) := by decide +kernel
theorem d_Seat_adds_118 : decode prog_7_method_3_code 118 = .ok (.putfield 71, 3) := by decide +kernel
theorem d_Seat_adds_128 : decode prog_7_method_3_code 128 = .ok (.putfield 59, 3) := by decide +kernel
set_option maxRecDepth 10000 in
set_option maxHeartbeats 4000000 in
theorem w_Seat_adds {q : QT} {z : ZT} {this : Nat} {a1 : Int32} {a2 : Int32} {μ : Mm} {ν : Ml} (C : Ctx sdX q z prog_7_method_3_code "BesideTom$Seating" 6 1 (some (FieldType.int))) (h_this : this ∈ seats) : R sdX q z 6 (φIm ν) (F_Seat_adds this a1 a2 μ) μ ν 0 [(0, .ref (q.2.2.1 this)), (1, .int a1), (2, .int a2)] [] := by
  unfold F_Seat_adds
  refine R_aload_n C 0 d_Seat_adds_0 rfl rfl ?_
  refine gf_Seat_many C h_this fl_Seat_59 d_Seat_adds_1 ?_
  refine R_istore_n C (lv' := [(3, .int (μ this 1)), (0, .ref (q.2.2.1 this)), (1, .int a1), (2, .int a2)]) d_Seat_adds_4 rfl (by decide) rfl ?_
  refine R_iconst C d_Seat_adds_5 (v := 0) (by decide +kernel) ?_
  refine R_istore C (lv' := [(4, .int 0), (3, .int (μ this 1)), (0, .ref (q.2.2.1 this)), (1, .int a1), (2, .int a2)]) d_Seat_adds_6 (by decide) rfl ?_
  refine R_sub [0, 2, 3, 4, 1] rfl ?_
  refine W_Seat_adds_8 C h_this ?_ fu _
  intro x8
  refine R_aload_n C 0 d_Seat_adds_29 rfl rfl ?_
  refine gf_Seat_kind C h_this fl_Seat_21 d_Seat_adds_30 ?_
  refine R_iload_n C 3 d_Seat_adds_33 rfl rfl ?_
  refine R_iload_n C 1 d_Seat_adds_34 rfl rfl ?_
  refine R_iast C (se_1 h_this) (fun h => sc_1 h_this q h _) d_Seat_adds_35 (fun μ9 => ?_)
  refine R_aload_n C 0 d_Seat_adds_36 rfl rfl ?_
  refine gf_Seat_v C h_this fl_Seat_25 d_Seat_adds_37 ?_
  refine R_iload_n C 3 d_Seat_adds_40 rfl rfl ?_
  refine R_iload_n C 2 d_Seat_adds_41 rfl rfl ?_
  refine R_iast C (se_2 h_this) (fun h => sc_2 h_this q h _) d_Seat_adds_42 (fun μ10 => ?_)
  refine R_aload_n C 0 d_Seat_adds_43 rfl rfl ?_
  refine gf_Seat_desk C h_this fl_Seat_28 d_Seat_adds_44 ?_
  refine R_iload_n C 3 d_Seat_adds_47 rfl rfl ?_
  refine R_iload C 4 d_Seat_adds_48 rfl ?_
  refine R_iast C (se_3 h_this) (fun h => sc_3 h_this q h _) d_Seat_adds_50 (fun μ11 => ?_)
  refine R_aload_n C 0 d_Seat_adds_51 rfl rfl ?_
  refine gf_Seat_knows C h_this fl_Seat_31 d_Seat_adds_52 ?_
  refine R_iload_n C 3 d_Seat_adds_55 rfl rfl ?_
  refine R_iconst C d_Seat_adds_56 (v := 0) (by decide +kernel) ?_
  refine R_iast C (se_4 h_this) (fun h => sc_4 h_this q h _) d_Seat_adds_57 (fun μ12 => ?_)
  refine R_iconst C d_Seat_adds_58 (v := 0) (by decide +kernel) ?_
  refine R_istore C (lv' := [(5, .int 0), (0, .ref (q.2.2.1 this)), (1, .int a1), (2, .int a2), (3, .int (μ this 1)), (4, .int x8)]) d_Seat_adds_59 (by decide) rfl ?_
  refine R_sub [0, 1, 2, 4] rfl ?_
  refine W_Seat_adds_61 C h_this ?_ fu _ _
  intro μ19
  refine R_aload_n C 0 d_Seat_adds_85 rfl rfl ?_
  refine R_iload_n C 2 d_Seat_adds_86 rfl rfl ?_
  refine R_iconst C d_Seat_adds_87 (v := 0) (by decide +kernel) ?_
  refine R_bind (fun μ20 h21 => ?_)
  refine R_callV C (se_0 h_this) (sc_0 h_this q _ _) rfl cf_Seat_setAway rfl ml_Seat_88 im_Seat_setAway sl_Seat_Seat_setAway_Seat_setAway (c_Seat_setAway (gk C) h_this h21) (by decide) (by decide) rfl rfl (Nat.le_of_ble_eq_true rfl) d_Seat_adds_88 ?_
  refine R_aload_n C 0 d_Seat_adds_91 rfl rfl ?_
  refine R_iload_n C 1 d_Seat_adds_92 rfl rfl ?_
  refine R_iconst C d_Seat_adds_93 (v := 5) (by decide +kernel) ?_
  refine R_jn (fun K25 => ∀ (j22 : Int32), R sdX q z 6 (φIm ν) (K25 j22) μ20 ν 118 [(0, .ref (q.2.2.1 this)), (3, .int (μ this 1))] [.int j22, .ref (q.2.2.1 this)]) ?_ (fun K25 hK25 => ?_)
  · intro j22
    refine pf_Seat_corks C h_this fl_Seat_71 d_Seat_adds_118 (fun μ23 => ?_)
    refine R_aload_n C 0 d_Seat_adds_121 rfl rfl ?_
    refine R_dup C d_Seat_adds_122 rfl ?_
    refine gf_Seat_many C h_this fl_Seat_59 d_Seat_adds_123 ?_
    refine R_iconst C d_Seat_adds_126 (v := 1) (by decide +kernel) ?_
    refine R_iadd C d_Seat_adds_127 ?_
    refine pf_Seat_many C h_this fl_Seat_59 d_Seat_adds_128 (fun μ24 => ?_)
    refine R_iload_n C 1 d_Seat_adds_131 rfl rfl ?_
    exact R_iret C rfl d_Seat_adds_132
  · skip
    refine R_icmp_ne C d_Seat_adds_94 (tgt := 108) (by decide) ?_ ?_
    · skip
      refine R_aload_n C 0 d_Seat_adds_108 rfl rfl ?_
      refine gf_Seat_corks C h_this fl_Seat_71 d_Seat_adds_109 ?_
      refine R_iconst C d_Seat_adds_112 (v := 1) (by decide +kernel) ?_
      refine R_iload_n C 2 d_Seat_adds_113 rfl rfl ?_
      refine R_ishl C d_Seat_adds_114 ?_
      refine R_iconst C d_Seat_adds_115 (v := (-1)) (by decide +kernel) ?_
      refine R_ixor C d_Seat_adds_116 ?_
      refine R_iand C d_Seat_adds_117 ?_
      exact R_sub [0, 2] rfl (hK25 ((μ20 this 8) &&& ((1 <<< ((μ this 1) &&& 31)) ^^^ (-1))))
    · skip
      refine R_aload_n C 0 d_Seat_adds_97 rfl rfl ?_
      refine gf_Seat_corks C h_this fl_Seat_71 d_Seat_adds_98 ?_
      refine R_iconst C d_Seat_adds_101 (v := 1) (by decide +kernel) ?_
      refine R_iload_n C 2 d_Seat_adds_102 rfl rfl ?_
      refine R_ishl C d_Seat_adds_103 ?_
      refine R_ior C d_Seat_adds_104 ?_
      refine R_goto C d_Seat_adds_105 (tgt := 118) (by decide) ?_
      exact R_sub [0, 2] rfl (hK25 ((μ20 this 8) ||| (1 <<< ((μ this 1) &&& 31))))
theorem c_Seat_adds {q : QT} (hg : GOk sdX q) {this : Nat} {a1 : Int32} {a2 : Int32} {μ : Mm} {ν : Ml} (h_this : this ∈ seats) {o : Int32 × Mm} (ho : F_Seat_adds this a1 a2 μ = some o) : Ct sdX q y_Seat_adds prog_7_method_3_code 6 (some (FieldType.int)) 1 [.ref (q.2.2.1 this), .int a1, .int a2] μ ν ((φIm ν) o).1 ((φIm ν) o).2.1 ((φIm ν) o).2.2 := Ct_of rfl hg (fun z C => w_Seat_adds C h_this) (Nat.le_of_ble_eq_true rfl) ho
def L_Rows_becomes_7 (f3 : Nat) (f4 : Nat) (k : Mm → Option (Mm)) : Nat → Int32 → Mm → Option (Mm)
  | 0, _, _ => none
  | n + 1, s2, μ5 => (if (μ5 f4 2) ≤ s2 then k μ5 else (rdI (μ5 (f4 + 1)) (rlen f4) s2).bind fun v6 => (rdI (μ5 (f4 + 2)) (rlen f4) s2).bind fun v7 => (F_Rows_takes f3 v6 v7 μ5).bind fun p_ => match p_ with | (v8, μ9) => L_Rows_becomes_7 f3 f4 k n (s2 + 1) μ9)
def F_Rows_becomes (this : Nat) (a1 : Nat) (μ : Mm) : Option (Mm) := lt_ (up2 μ this 2 0) fun μ1 => L_Rows_becomes_7 this a1 (fun (μ11 : Mm) => some μ11) fu 0 μ1
theorem d_Rows_becomes_0 : decode prog_6_method_4_code 0 = .ok (.aload_n 0, 1) := by decide +kernel
theorem d_Rows_becomes_1 : decode prog_6_method_4_code 1 = .ok (.iconst 0, 1) := by decide +kernel
theorem d_Rows_becomes_5 : decode prog_6_method_4_code 5 = .ok (.iconst 0, 1) := by decide +kernel
theorem d_Rows_becomes_6 : decode prog_6_method_4_code 6 = .ok (.istore_n 2, 1) := by decide +kernel
theorem d_Rows_becomes_7 : decode prog_6_method_4_code 7 = .ok (.iload_n 2, 1) := by decide +kernel
theorem d_Rows_becomes_8 : decode prog_6_method_4_code 8 = .ok (.aload_n 1, 1) := by decide +kernel
theorem d_Rows_becomes_15 : decode prog_6_method_4_code 15 = .ok (.aload_n 0, 1) := by decide +kernel
theorem d_Rows_becomes_16 : decode prog_6_method_4_code 16 = .ok (.aload_n 1, 1) := by decide +kernel
theorem d_Rows_becomes_20 : decode prog_6_method_4_code 20 = .ok (.iload_n 2, 1) := by decide +kernel
theorem d_Rows_becomes_22 : decode prog_6_method_4_code 22 = .ok (.aload_n 1, 1) := by decide +kernel
theorem d_Rows_becomes_26 : decode prog_6_method_4_code 26 = .ok (.iload_n 2, 1) := by decide +kernel
theorem d_Rows_becomes_28 : decode prog_6_method_4_code 28 = .ok (.invokevirtual 28, 3) := by decide +kernel
theorem d_Rows_becomes_31 : decode prog_6_method_4_code 31 = .ok (.pop, 1) := by decide +kernel
theorem d_Rows_becomes_32 : decode prog_6_method_4_code 32 = .ok (.iinc 2 1, 3) := by decide +kernel
theorem d_Rows_becomes_35 : decode prog_6_method_4_code 35 = .ok (.goto (-28), 3) := by decide +kernel
theorem d_Rows_becomes_23 : decode prog_6_method_4_code 23 = .ok (.getfield 21, 3) := by decide +kernel
theorem d_Rows_becomes_17 : decode prog_6_method_4_code 17 = .ok (.getfield 15, 3) := by decide +kernel
theorem d_Rows_becomes_12 : decode prog_6_method_4_code 12 = .ok (.if_icmp .ge 26, 3) := by decide +kernel
theorem d_Rows_becomes_9 : decode prog_6_method_4_code 9 = .ok (.getfield 24, 3) := by decide +kernel
theorem d_Rows_becomes_21 : decode prog_6_method_4_code 21 = .ok (.iaload, 1) := by decide +kernel
theorem d_Rows_becomes_27 : decode prog_6_method_4_code 27 = .ok (.iaload, 1) := by decide +kernel
set_option maxRecDepth 10000 in
set_option maxHeartbeats 4000000 in
theorem W_Rows_becomes_7 {q : QT} {z : ZT} {ν : Ml} {f3 : Nat} {f4 : Nat} {k : Mm → Option (Mm)} (C : Ctx sdX q z prog_6_method_4_code "BesideTom$Rows" 3 1 none) (h_f3 : f3 ∈ rowsI) (h_f4 : f4 ∈ rowsI) (hk : ∀ (me_ : Mm), R sdX q z 3 (φVm ν) (k me_) me_ ν 38 [] []) : ∀ (n : Nat) (s2 : Int32) (μ5 : Mm), R sdX q z 3 (φVm ν) (L_Rows_becomes_7 f3 f4 k n s2 μ5) μ5 ν 7 [(2, .int s2), (0, .ref (q.2.2.1 f3)), (1, .ref (q.2.2.1 f4))] [] := by
  intro n
  induction n with
  | zero =>
    intros
    exact R_none
  | succ n ih =>
    intro s2 μ5
    rw [L_Rows_becomes_7]
    refine R_iload_n C 0 d_Rows_becomes_7 rfl rfl ?_
    refine R_aload_n C 2 d_Rows_becomes_8 rfl rfl ?_
    refine gf_Rows_many C h_f4 fl_Rows_24 d_Rows_becomes_9 ?_
    refine R_icmp_ge C d_Rows_becomes_12 (tgt := 38) (by decide) ?_ ?_
    · skip
      exact R_sub [] rfl (hk μ5)
    · skip
      refine R_aload_n C 1 d_Rows_becomes_15 rfl rfl ?_
      refine R_aload_n C 2 d_Rows_becomes_16 rfl rfl ?_
      refine gf_Rows_first C h_f4 fl_Rows_15 d_Rows_becomes_17 ?_
      refine R_iload_n C 0 d_Rows_becomes_20 rfl rfl ?_
      refine R_iald C (re_1 h_f4) (rc_1 h_f4 q _ _) d_Rows_becomes_21 (fun v6 => ?_)
      refine R_aload_n C 2 d_Rows_becomes_22 rfl rfl ?_
      refine gf_Rows_second C h_f4 fl_Rows_21 d_Rows_becomes_23 ?_
      refine R_iload_n C 0 d_Rows_becomes_26 rfl rfl ?_
      refine R_iald C (re_2 h_f4) (rc_2 h_f4 q _ _) d_Rows_becomes_27 (fun v7 => ?_)
      refine R_bind (fun r_ h10 => ?_)
      obtain ⟨v8, μ9⟩ := r_
      refine R_callV C (re_0 h_f3) (rc_0 h_f3 q _ _) rfl cf_Rows_takes rfl ml_Rows_28 im_Rows_takes sl_Rows_Rows_takes_Rows_takes (c_Rows_takes (gk C) h_f3 h10) (by decide) (by decide) rfl rfl (Nat.le_of_ble_eq_true rfl) d_Rows_becomes_28 ?_
      refine R_pop C d_Rows_becomes_31 rfl ?_
      refine R_iinc C 0 d_Rows_becomes_32 rfl (iinc_v _ (v := 1) (by decide +kernel)) (lv' := [(2, .int (s2 + 1)), (0, .ref (q.2.2.1 f3)), (1, .ref (q.2.2.1 f4))]) (by decide) rfl ?_
      refine R_goto C d_Rows_becomes_35 (tgt := 7) (by decide) ?_
      exact R_sub [0, 1, 2] rfl (ih (s2 + 1) μ9)
theorem d_Rows_becomes_38 : decode prog_6_method_4_code 38 = .ok (.return_, 1) := by decide +kernel
theorem d_Rows_becomes_2 : decode prog_6_method_4_code 2 = .ok (.putfield 24, 3) := by decide +kernel
set_option maxRecDepth 10000 in
set_option maxHeartbeats 4000000 in
theorem w_Rows_becomes {q : QT} {z : ZT} {this : Nat} {a1 : Nat} {μ : Mm} {ν : Ml} (C : Ctx sdX q z prog_6_method_4_code "BesideTom$Rows" 3 1 none) (h_this : this ∈ rowsI) (h_a1 : a1 ∈ rowsI) : R sdX q z 3 (φVm ν) (F_Rows_becomes this a1 μ) μ ν 0 [(0, .ref (q.2.2.1 this)), (1, .ref (q.2.2.1 a1))] [] := by
  unfold F_Rows_becomes
  refine R_aload_n C 0 d_Rows_becomes_0 rfl rfl ?_
  refine R_iconst C d_Rows_becomes_1 (v := 0) (by decide +kernel) ?_
  refine pf_Rows_many C h_this fl_Rows_24 d_Rows_becomes_2 (fun μ1 => ?_)
  refine R_iconst C d_Rows_becomes_5 (v := 0) (by decide +kernel) ?_
  refine R_istore_n C (lv' := [(2, .int 0), (0, .ref (q.2.2.1 this)), (1, .ref (q.2.2.1 a1))]) d_Rows_becomes_6 rfl (by decide) rfl ?_
  refine R_sub [0, 1, 2] rfl ?_
  refine W_Rows_becomes_7 C h_this h_a1 ?_ fu _ _
  intro μ11
  exact R_vret C rfl d_Rows_becomes_38
theorem c_Rows_becomes {q : QT} (hg : GOk sdX q) {this : Nat} {a1 : Nat} {μ : Mm} {ν : Ml} (h_this : this ∈ rowsI) (h_a1 : a1 ∈ rowsI) {o : Mm} (ho : F_Rows_becomes this a1 μ = some o) : Ct sdX q y_Rows_becomes prog_6_method_4_code 3 none 1 [.ref (q.2.2.1 this), .ref (q.2.2.1 a1)] μ ν ((φVm ν) o).1 ((φVm ν) o).2.1 ((φVm ν) o).2.2 := Ct_of rfl hg (fun z C => w_Rows_becomes C h_this h_a1) (Nat.le_of_ble_eq_true rfl) ho
def F_BT_count (a1 : Int32) (μ : Mm) : Option (Int32) := (if a1 = 0 then some (μ 40 1) else if a1 = 1 then some (μ 1 2) else if a1 = 2 then some (μ 47 2) else if a1 = 3 then some (μ 50 2) else if a1 = 4 then some (μ 53 2) else if a1 = 5 then (F_Rooms_signs μ).bind fun v1 => some v1 else if a1 = 6 then some (μ 11 1) else some (-2))
theorem d_BT_count_0 : decode prog_1_method_41_code 0 = .ok (.iload_n 1, 1) := by decide +kernel
theorem d_BT_count_1 : decode prog_1_method_41_code 1 = .ok (.tableswitch 108 0 6 #[43, 51, 59, 70, 81, 92, 100], 43) := by decide +kernel
theorem d_BT_count_44 : decode prog_1_method_41_code 44 = .ok (.aload_n 0, 1) := by decide +kernel
theorem d_BT_count_51 : decode prog_1_method_41_code 51 = .ok (.ireturn, 1) := by decide +kernel
theorem d_BT_count_48 : decode prog_1_method_41_code 48 = .ok (.getfield 80, 3) := by decide +kernel
theorem d_BT_count_45 : decode prog_1_method_41_code 45 = .ok (.getfield 52, 3) := by decide +kernel
theorem d_BT_count_52 : decode prog_1_method_41_code 52 = .ok (.aload_n 0, 1) := by decide +kernel
theorem d_BT_count_59 : decode prog_1_method_41_code 59 = .ok (.ireturn, 1) := by decide +kernel
theorem d_BT_count_56 : decode prog_1_method_41_code 56 = .ok (.getfield 147, 3) := by decide +kernel
theorem d_BT_count_53 : decode prog_1_method_41_code 53 = .ok (.getfield 65, 3) := by decide +kernel
theorem d_BT_count_60 : decode prog_1_method_41_code 60 = .ok (.aload_n 0, 1) := by decide +kernel
theorem d_BT_count_70 : decode prog_1_method_41_code 70 = .ok (.ireturn, 1) := by decide +kernel
theorem d_BT_count_67 : decode prog_1_method_41_code 67 = .ok (.getfield 266, 3) := by decide +kernel
theorem d_BT_count_64 : decode prog_1_method_41_code 64 = .ok (.getfield 236, 3) := by decide +kernel
theorem d_BT_count_61 : decode prog_1_method_41_code 61 = .ok (.getfield 52, 3) := by decide +kernel
theorem d_BT_count_71 : decode prog_1_method_41_code 71 = .ok (.aload_n 0, 1) := by decide +kernel
theorem d_BT_count_81 : decode prog_1_method_41_code 81 = .ok (.ireturn, 1) := by decide +kernel
theorem d_BT_count_78 : decode prog_1_method_41_code 78 = .ok (.getfield 266, 3) := by decide +kernel
theorem d_BT_count_75 : decode prog_1_method_41_code 75 = .ok (.getfield 263, 3) := by decide +kernel
theorem d_BT_count_72 : decode prog_1_method_41_code 72 = .ok (.getfield 52, 3) := by decide +kernel
theorem d_BT_count_82 : decode prog_1_method_41_code 82 = .ok (.aload_n 0, 1) := by decide +kernel
theorem d_BT_count_92 : decode prog_1_method_41_code 92 = .ok (.ireturn, 1) := by decide +kernel
theorem d_BT_count_89 : decode prog_1_method_41_code 89 = .ok (.getfield 266, 3) := by decide +kernel
theorem d_BT_count_86 : decode prog_1_method_41_code 86 = .ok (.getfield 273, 3) := by decide +kernel
theorem d_BT_count_83 : decode prog_1_method_41_code 83 = .ok (.getfield 52, 3) := by decide +kernel
theorem d_BT_count_93 : decode prog_1_method_41_code 93 = .ok (.aload_n 0, 1) := by decide +kernel
theorem d_BT_count_97 : decode prog_1_method_41_code 97 = .ok (.invokevirtual 314, 3) := by decide +kernel
theorem d_BT_count_100 : decode prog_1_method_41_code 100 = .ok (.ireturn, 1) := by decide +kernel
theorem d_BT_count_94 : decode prog_1_method_41_code 94 = .ok (.getfield 65, 3) := by decide +kernel
theorem d_BT_count_101 : decode prog_1_method_41_code 101 = .ok (.aload_n 0, 1) := by decide +kernel
theorem d_BT_count_108 : decode prog_1_method_41_code 108 = .ok (.ireturn, 1) := by decide +kernel
theorem d_BT_count_105 : decode prog_1_method_41_code 105 = .ok (.getfield 283, 3) := by decide +kernel
theorem d_BT_count_102 : decode prog_1_method_41_code 102 = .ok (.getfield 72, 3) := by decide +kernel
theorem d_BT_count_109 : decode prog_1_method_41_code 109 = .ok (.bipush (-2), 2) := by decide +kernel
theorem d_BT_count_111 : decode prog_1_method_41_code 111 = .ok (.ireturn, 1) := by decide +kernel
set_option maxRecDepth 10000 in
set_option maxHeartbeats 4000000 in
theorem w_BT_count {q : QT} {z : ZT} {a1 : Int32} {μ : Mm} {ν : Ml} (C : Ctx sdX q z prog_1_method_41_code "BesideTom" 2 1 (some (FieldType.int))) : R sdX q z 2 (φI μ ν) (F_BT_count a1 μ) μ ν 0 [(0, .ref (q.2.2.1 0)), (1, .int a1)] [] := by
  unfold F_BT_count
  refine R_iload_n C 1 d_BT_count_0 rfl rfl ?_
  refine R_ite (fun e3 => ?_) (fun e3 => ?_)
  · refine R_tsw C e3 d_BT_count_1 (tgt := 44) (by decide +kernel) (by decide +kernel) rfl (by decide) ?_
    refine R_aload_n C 0 d_BT_count_44 rfl rfl ?_
    refine gf_BT_now C fl_BT_52 d_BT_count_45 ?_
    refine gf_Seat_many C s40 fl_BT_80 d_BT_count_48 ?_
    exact R_iret C rfl d_BT_count_51
  refine R_ite (fun e4 => ?_) (fun e4 => ?_)
  · refine R_tsw C e4 d_BT_count_1 (tgt := 52) (by decide +kernel) (by decide +kernel) rfl (by decide) ?_
    refine R_aload_n C 0 d_BT_count_52 rfl rfl ?_
    refine gf_BT_rooms C fl_BT_65 d_BT_count_53 ?_
    refine gf_Rooms_many C fl_BT_147 d_BT_count_56 ?_
    exact R_iret C rfl d_BT_count_59
  refine R_ite (fun e5 => ?_) (fun e5 => ?_)
  · refine R_tsw C e5 d_BT_count_1 (tgt := 60) (by decide +kernel) (by decide +kernel) rfl (by decide) ?_
    refine R_aload_n C 0 d_BT_count_60 rfl rfl ?_
    refine gf_BT_now C fl_BT_52 d_BT_count_61 ?_
    refine gf_Seat_heard C s40 fl_BT_236 d_BT_count_64 ?_
    refine gf_Rows_many C (sr_7 s40) fl_BT_266 d_BT_count_67 ?_
    exact R_iret C rfl d_BT_count_70
  refine R_ite (fun e6 => ?_) (fun e6 => ?_)
  · refine R_tsw C e6 d_BT_count_1 (tgt := 71) (by decide +kernel) (by decide +kernel) rfl (by decide) ?_
    refine R_aload_n C 0 d_BT_count_71 rfl rfl ?_
    refine gf_BT_now C fl_BT_52 d_BT_count_72 ?_
    refine gf_Seat_term C s40 fl_BT_263 d_BT_count_75 ?_
    refine gf_Rows_many C (sr_10 s40) fl_BT_266 d_BT_count_78 ?_
    exact R_iret C rfl d_BT_count_81
  refine R_ite (fun e7 => ?_) (fun e7 => ?_)
  · refine R_tsw C e7 d_BT_count_1 (tgt := 82) (by decide +kernel) (by decide +kernel) rfl (by decide) ?_
    refine R_aload_n C 0 d_BT_count_82 rfl rfl ?_
    refine gf_BT_now C fl_BT_52 d_BT_count_83 ?_
    refine gf_Seat_book C s40 fl_BT_273 d_BT_count_86 ?_
    refine gf_Rows_many C (sr_13 s40) fl_BT_266 d_BT_count_89 ?_
    exact R_iret C rfl d_BT_count_92
  refine R_ite (fun e8 => ?_) (fun e8 => ?_)
  · refine R_tsw C e8 d_BT_count_1 (tgt := 93) (by decide +kernel) (by decide +kernel) rfl (by decide) ?_
    refine R_aload_n C 0 d_BT_count_93 rfl rfl ?_
    refine gf_BT_rooms C fl_BT_65 d_BT_count_94 ?_
    refine R_bind (fun v1 h2 => ?_)
    refine R_callV C xm_1 (xc_1 q _ _) rfl cf_Rooms_signs rfl ml_BT_314 im_Rooms_signs sl_Rooms_Rooms_signs_Rooms_signs (c_Rooms_signs (gk C) h2) (by decide) (by decide) rfl rfl (Nat.le_of_ble_eq_true rfl) d_BT_count_97 ?_
    exact R_iret C rfl d_BT_count_100
  refine R_ite (fun e9 => ?_) (fun e9 => ?_)
  · refine R_tsw C e9 d_BT_count_1 (tgt := 101) (by decide +kernel) (by decide +kernel) rfl (by decide) ?_
    refine R_aload_n C 0 d_BT_count_101 rfl rfl ?_
    refine gf_BT_trace C fl_BT_72 d_BT_count_102 ?_
    refine gf_Trace_ran C fl_BT_283 d_BT_count_105 ?_
    exact R_iret C rfl d_BT_count_108
  refine R_tswd C d_BT_count_1 (tgt := 109) (sw_out (L := [0, 1, 2, 3, 4, 5, 6]) (n := 7) (by decide +kernel) (by decide +kernel) (List.forall_mem_cons.mpr ⟨e3, List.forall_mem_cons.mpr ⟨e4, List.forall_mem_cons.mpr ⟨e5, List.forall_mem_cons.mpr ⟨e6, List.forall_mem_cons.mpr ⟨e7, List.forall_mem_cons.mpr ⟨e8, List.forall_mem_cons.mpr ⟨e9, fun _ h => absurd h List.not_mem_nil⟩⟩⟩⟩⟩⟩⟩)) (by decide) ?_
  refine R_bipush C d_BT_count_109 (v := (-2)) (by decide +kernel) ?_
  exact R_iret C rfl d_BT_count_111
theorem c_BT_count {q : QT} (hg : GOk sdX q) {a1 : Int32} {μ : Mm} {ν : Ml} {o : Int32} (ho : F_BT_count a1 μ = some o) : Ct sdX q y_BT_count prog_1_method_41_code 2 (some (FieldType.int)) 1 [.ref (q.2.2.1 0), .int a1] μ ν ((φI μ ν) o).1 ((φI μ ν) o).2.1 ((φI μ ν) o).2.2 := Ct_of rfl hg (fun z C => w_BT_count C) (Nat.le_of_ble_eq_true rfl) ho
def F_Rooms_expects (a1 : Int32) (μ : Mm) : Option (Mm) := (if (μ 1 5) = a1 then (F_Rooms_steps μ).bind fun μ3 => some μ3 else (F_Rooms_fails μ).bind fun μ1 => some μ1)
theorem d_Rooms_expects_0 : decode prog_5_method_11_code 0 = .ok (.aload_n 0, 1) := by decide +kernel
theorem d_Rooms_expects_4 : decode prog_5_method_11_code 4 = .ok (.iload_n 1, 1) := by decide +kernel
theorem d_Rooms_expects_15 : decode prog_5_method_11_code 15 = .ok (.aload_n 0, 1) := by decide +kernel
theorem d_Rooms_expects_16 : decode prog_5_method_11_code 16 = .ok (.invokevirtual 55, 3) := by decide +kernel
theorem d_Rooms_expects_19 : decode prog_5_method_11_code 19 = .ok (.return_, 1) := by decide +kernel
theorem d_Rooms_expects_8 : decode prog_5_method_11_code 8 = .ok (.aload_n 0, 1) := by decide +kernel
theorem d_Rooms_expects_9 : decode prog_5_method_11_code 9 = .ok (.invokevirtual 49, 3) := by decide +kernel
theorem d_Rooms_expects_12 : decode prog_5_method_11_code 12 = .ok (.goto 7, 3) := by decide +kernel
theorem d_Rooms_expects_5 : decode prog_5_method_11_code 5 = .ok (.if_icmp .ne 10, 3) := by decide +kernel
theorem d_Rooms_expects_1 : decode prog_5_method_11_code 1 = .ok (.getfield 46, 3) := by decide +kernel
set_option maxRecDepth 10000 in
set_option maxHeartbeats 4000000 in
theorem w_Rooms_expects {q : QT} {z : ZT} {a1 : Int32} {μ : Mm} {ν : Ml} (C : Ctx sdX q z prog_5_method_11_code "BesideTom$Rooms" 2 1 none) : R sdX q z 2 (φVm ν) (F_Rooms_expects a1 μ) μ ν 0 [(0, .ref (q.2.2.1 1)), (1, .int a1)] [] := by
  unfold F_Rooms_expects
  refine R_aload_n C 0 d_Rooms_expects_0 rfl rfl ?_
  refine gf_Rooms_sign C fl_Rooms_46 d_Rooms_expects_1 ?_
  refine R_iload_n C 1 d_Rooms_expects_4 rfl rfl ?_
  refine R_icmp_ne C d_Rooms_expects_5 (tgt := 15) (by decide) ?_ ?_
  · skip
    refine R_aload_n C 0 d_Rooms_expects_15 rfl rfl ?_
    refine R_bind (fun μ1 h2 => ?_)
    refine R_callV C xm_1 (xc_1 q _ _) rfl cf_Rooms_fails rfl ml_Rooms_55 im_Rooms_fails sl_Rooms_Rooms_fails_Rooms_fails (c_Rooms_fails (gk C) h2) (by decide) (by decide) rfl rfl (Nat.le_of_ble_eq_true rfl) d_Rooms_expects_16 ?_
    exact R_vret C rfl d_Rooms_expects_19
  · skip
    refine R_aload_n C 0 d_Rooms_expects_8 rfl rfl ?_
    refine R_bind (fun μ3 h4 => ?_)
    refine R_callV C xm_1 (xc_1 q _ _) rfl cf_Rooms_steps rfl ml_Rooms_49 im_Rooms_steps sl_Rooms_Rooms_steps_Rooms_steps (c_Rooms_steps (gk C) h4) (by decide) (by decide) rfl rfl (Nat.le_of_ble_eq_true rfl) d_Rooms_expects_9 ?_
    refine R_goto C d_Rooms_expects_12 (tgt := 19) (by decide) ?_
    exact R_vret C rfl d_Rooms_expects_19
theorem c_Rooms_expects {q : QT} (hg : GOk sdX q) {a1 : Int32} {μ : Mm} {ν : Ml} {o : Mm} (ho : F_Rooms_expects a1 μ = some o) : Ct sdX q y_Rooms_expects prog_5_method_11_code 2 none 1 [.ref (q.2.2.1 1), .int a1] μ ν ((φVm ν) o).1 ((φVm ν) o).2.1 ((φVm ν) o).2.2 := Ct_of rfl hg (fun z C => w_Rooms_expects C) (Nat.le_of_ble_eq_true rfl) ho
def F_BT_feed (a1 : Int32) (μ : Mm) : Option (Int32 × Mm) := (F_BT_within a1 0 127).bind fun v1 => (if v1 = 0 then some ((-2), μ) else (F_Rooms_takes a1 μ).bind fun p_ => match p_ with | (v3, μ4) => some (v3, μ4))
theorem d_BT_feed_0 : decode prog_1_method_8_code 0 = .ok (.iload_n 1, 1) := by decide +kernel
theorem d_BT_feed_1 : decode prog_1_method_8_code 1 = .ok (.iconst 0, 1) := by decide +kernel
theorem d_BT_feed_2 : decode prog_1_method_8_code 2 = .ok (.bipush 127, 2) := by decide +kernel
theorem d_BT_feed_4 : decode prog_1_method_8_code 4 = .ok (.invokestatic 76, 3) := by decide +kernel
theorem d_BT_feed_21 : decode prog_1_method_8_code 21 = .ok (.bipush (-2), 2) := by decide +kernel
theorem d_BT_feed_23 : decode prog_1_method_8_code 23 = .ok (.ireturn, 1) := by decide +kernel
theorem d_BT_feed_10 : decode prog_1_method_8_code 10 = .ok (.aload_n 0, 1) := by decide +kernel
theorem d_BT_feed_14 : decode prog_1_method_8_code 14 = .ok (.iload_n 1, 1) := by decide +kernel
theorem d_BT_feed_15 : decode prog_1_method_8_code 15 = .ok (.invokevirtual 144, 3) := by decide +kernel
theorem d_BT_feed_18 : decode prog_1_method_8_code 18 = .ok (.goto 5, 3) := by decide +kernel
theorem d_BT_feed_11 : decode prog_1_method_8_code 11 = .ok (.getfield 65, 3) := by decide +kernel
theorem d_BT_feed_7 : decode prog_1_method_8_code 7 = .ok (.ifCond .eq 14, 3) := by decide +kernel
set_option maxRecDepth 10000 in
set_option maxHeartbeats 4000000 in
theorem w_BT_feed {q : QT} {z : ZT} {a1 : Int32} {μ : Mm} {ν : Ml} (C : Ctx sdX q z prog_1_method_8_code "BesideTom" 2 1 (some (FieldType.int))) : R sdX q z 2 (φIm ν) (F_BT_feed a1 μ) μ ν 0 [(0, .ref (q.2.2.1 0)), (1, .int a1)] [] := by
  unfold F_BT_feed
  refine R_iload_n C 1 d_BT_feed_0 rfl rfl ?_
  refine R_iconst C d_BT_feed_1 (v := 0) (by decide +kernel) ?_
  refine R_bipush C d_BT_feed_2 (v := 127) (by decide +kernel) ?_
  refine R_bind (fun v1 h2 => ?_)
  refine R_callS C cf_BT_within ml_BT_76 sm_BT_within (c_BT_within (gk C) h2) (by decide) (by decide) rfl rfl (Nat.le_of_ble_eq_true rfl) d_BT_feed_4 ?_
  refine R_if_eq C d_BT_feed_7 (tgt := 21) (by decide) ?_ ?_
  · skip
    refine R_bipush C d_BT_feed_21 (v := (-2)) (by decide +kernel) ?_
    exact R_iret C rfl d_BT_feed_23
  · skip
    refine R_aload_n C 0 d_BT_feed_10 rfl rfl ?_
    refine gf_BT_rooms C fl_BT_65 d_BT_feed_11 ?_
    refine R_iload_n C 1 d_BT_feed_14 rfl rfl ?_
    refine R_bind (fun r_ h5 => ?_)
    obtain ⟨v3, μ4⟩ := r_
    refine R_callV C xm_1 (xc_1 q _ _) rfl cf_Rooms_takes rfl ml_BT_144 im_Rooms_takes sl_Rooms_Rooms_takes_Rooms_takes (c_Rooms_takes (gk C) h5) (by decide) (by decide) rfl rfl (Nat.le_of_ble_eq_true rfl) d_BT_feed_15 ?_
    refine R_goto C d_BT_feed_18 (tgt := 23) (by decide) ?_
    exact R_iret C rfl d_BT_feed_23
theorem c_BT_feed {q : QT} (hg : GOk sdX q) {a1 : Int32} {μ : Mm} {ν : Ml} {o : Int32 × Mm} (ho : F_BT_feed a1 μ = some o) : Ct sdX q y_BT_feed prog_1_method_8_code 2 (some (FieldType.int)) 1 [.ref (q.2.2.1 0), .int a1] μ ν ((φIm ν) o).1 ((φIm ν) o).2.1 ((φIm ν) o).2.2 := Ct_of rfl hg (fun z C => w_BT_feed C) (Nat.le_of_ble_eq_true rfl) ho
def F_BT_hear (a1 : Int32) (a2 : Int32) (μ : Mm) : Option (Int32 × Mm) := (if a1 = (-1) then (F_Rows_empties 47 μ).bind fun p_ => match p_ with | (v8, μ9) => some (v8, μ9) else (F_BT_within a1 0 999).bind fun v1 => (if v1 = 0 then some ((-2), μ) else (F_BT_within a2 0 20).bind fun v3 => (if v3 = 0 then some ((-2), μ) else (F_Rows_takes 47 a1 a2 μ).bind fun p_ => match p_ with | (v5, μ6) => some (v5, μ6))))
theorem d_BT_hear_0 : decode prog_1_method_25_code 0 = .ok (.iload_n 1, 1) := by decide +kernel
theorem d_BT_hear_1 : decode prog_1_method_25_code 1 = .ok (.iconst (-1), 1) := by decide +kernel
theorem d_BT_hear_16 : decode prog_1_method_25_code 16 = .ok (.iload_n 1, 1) := by decide +kernel
theorem d_BT_hear_17 : decode prog_1_method_25_code 17 = .ok (.iconst 0, 1) := by decide +kernel
theorem d_BT_hear_18 : decode prog_1_method_25_code 18 = .ok (.sipush 999, 3) := by decide +kernel
theorem d_BT_hear_21 : decode prog_1_method_25_code 21 = .ok (.invokestatic 76, 3) := by decide +kernel
theorem d_BT_hear_37 : decode prog_1_method_25_code 37 = .ok (.bipush (-2), 2) := by decide +kernel
theorem d_BT_hear_39 : decode prog_1_method_25_code 39 = .ok (.ireturn, 1) := by decide +kernel
theorem d_BT_hear_27 : decode prog_1_method_25_code 27 = .ok (.iload_n 2, 1) := by decide +kernel
theorem d_BT_hear_28 : decode prog_1_method_25_code 28 = .ok (.iconst 0, 1) := by decide +kernel
theorem d_BT_hear_29 : decode prog_1_method_25_code 29 = .ok (.bipush 20, 2) := by decide +kernel
theorem d_BT_hear_31 : decode prog_1_method_25_code 31 = .ok (.invokestatic 76, 3) := by decide +kernel
theorem d_BT_hear_40 : decode prog_1_method_25_code 40 = .ok (.aload_n 0, 1) := by decide +kernel
theorem d_BT_hear_47 : decode prog_1_method_25_code 47 = .ok (.iload_n 1, 1) := by decide +kernel
theorem d_BT_hear_48 : decode prog_1_method_25_code 48 = .ok (.iload_n 2, 1) := by decide +kernel
theorem d_BT_hear_49 : decode prog_1_method_25_code 49 = .ok (.invokevirtual 245, 3) := by decide +kernel
theorem d_BT_hear_52 : decode prog_1_method_25_code 52 = .ok (.ireturn, 1) := by decide +kernel
theorem d_BT_hear_44 : decode prog_1_method_25_code 44 = .ok (.getfield 236, 3) := by decide +kernel
theorem d_BT_hear_41 : decode prog_1_method_25_code 41 = .ok (.getfield 52, 3) := by decide +kernel
theorem d_BT_hear_34 : decode prog_1_method_25_code 34 = .ok (.ifCond .ne 6, 3) := by decide +kernel
theorem d_BT_hear_24 : decode prog_1_method_25_code 24 = .ok (.ifCond .eq 13, 3) := by decide +kernel
theorem d_BT_hear_5 : decode prog_1_method_25_code 5 = .ok (.aload_n 0, 1) := by decide +kernel
theorem d_BT_hear_12 : decode prog_1_method_25_code 12 = .ok (.invokevirtual 240, 3) := by decide +kernel
theorem d_BT_hear_15 : decode prog_1_method_25_code 15 = .ok (.ireturn, 1) := by decide +kernel
theorem d_BT_hear_9 : decode prog_1_method_25_code 9 = .ok (.getfield 236, 3) := by decide +kernel
theorem d_BT_hear_6 : decode prog_1_method_25_code 6 = .ok (.getfield 52, 3) := by decide +kernel
theorem d_BT_hear_2 : decode prog_1_method_25_code 2 = .ok (.if_icmp .ne 14, 3) := by decide +kernel
set_option maxRecDepth 10000 in
set_option maxHeartbeats 4000000 in
theorem w_BT_hear {q : QT} {z : ZT} {a1 : Int32} {a2 : Int32} {μ : Mm} {ν : Ml} (C : Ctx sdX q z prog_1_method_25_code "BesideTom" 3 1 (some (FieldType.int))) : R sdX q z 3 (φIm ν) (F_BT_hear a1 a2 μ) μ ν 0 [(0, .ref (q.2.2.1 0)), (1, .int a1), (2, .int a2)] [] := by
  unfold F_BT_hear
  refine R_iload_n C 1 d_BT_hear_0 rfl rfl ?_
  refine R_iconst C d_BT_hear_1 (v := (-1)) (by decide +kernel) ?_
  refine R_icmp_ne C d_BT_hear_2 (tgt := 16) (by decide) ?_ ?_
  · skip
    refine R_iload_n C 1 d_BT_hear_16 rfl rfl ?_
    refine R_iconst C d_BT_hear_17 (v := 0) (by decide +kernel) ?_
    refine R_sipush C d_BT_hear_18 (v := 999) (by decide +kernel) ?_
    refine R_bind (fun v1 h2 => ?_)
    refine R_callS C cf_BT_within ml_BT_76 sm_BT_within (c_BT_within (gk C) h2) (by decide) (by decide) rfl rfl (Nat.le_of_ble_eq_true rfl) d_BT_hear_21 ?_
    refine R_if_eq C d_BT_hear_24 (tgt := 37) (by decide) ?_ ?_
    · skip
      refine R_bipush C d_BT_hear_37 (v := (-2)) (by decide +kernel) ?_
      exact R_iret C rfl d_BT_hear_39
    · skip
      refine R_iload_n C 2 d_BT_hear_27 rfl rfl ?_
      refine R_iconst C d_BT_hear_28 (v := 0) (by decide +kernel) ?_
      refine R_bipush C d_BT_hear_29 (v := 20) (by decide +kernel) ?_
      refine R_bind (fun v3 h4 => ?_)
      refine R_callS C cf_BT_within ml_BT_76 sm_BT_within (c_BT_within (gk C) h4) (by decide) (by decide) rfl rfl (Nat.le_of_ble_eq_true rfl) d_BT_hear_31 ?_
      refine R_if_ne C d_BT_hear_34 (tgt := 40) (by decide) ?_ ?_
      · skip
        refine R_aload_n C 0 d_BT_hear_40 rfl rfl ?_
        refine gf_BT_now C fl_BT_52 d_BT_hear_41 ?_
        refine gf_Seat_heard C s40 fl_BT_236 d_BT_hear_44 ?_
        refine R_iload_n C 1 d_BT_hear_47 rfl rfl ?_
        refine R_iload_n C 2 d_BT_hear_48 rfl rfl ?_
        refine R_bind (fun r_ h7 => ?_)
        obtain ⟨v5, μ6⟩ := r_
        refine R_callV C (re_0 (sr_7 s40)) (rc_0 (sr_7 s40) q _ _) rfl cf_Rows_takes rfl ml_BT_245 im_Rows_takes sl_Rows_Rows_takes_Rows_takes (c_Rows_takes (gk C) (sr_7 s40) h7) (by decide) (by decide) rfl rfl (Nat.le_of_ble_eq_true rfl) d_BT_hear_49 ?_
        exact R_iret C rfl d_BT_hear_52
      · skip
        refine R_bipush C d_BT_hear_37 (v := (-2)) (by decide +kernel) ?_
        exact R_iret C rfl d_BT_hear_39
  · skip
    refine R_aload_n C 0 d_BT_hear_5 rfl rfl ?_
    refine gf_BT_now C fl_BT_52 d_BT_hear_6 ?_
    refine gf_Seat_heard C s40 fl_BT_236 d_BT_hear_9 ?_
    refine R_bind (fun r_ h10 => ?_)
    obtain ⟨v8, μ9⟩ := r_
    refine R_callV C (re_0 (sr_7 s40)) (rc_0 (sr_7 s40) q _ _) rfl cf_Rows_empties rfl ml_BT_240 im_Rows_empties sl_Rows_Rows_empties_Rows_empties (c_Rows_empties (gk C) (sr_7 s40) h10) (by decide) (by decide) rfl rfl (Nat.le_of_ble_eq_true rfl) d_BT_hear_12 ?_
    exact R_iret C rfl d_BT_hear_15
theorem c_BT_hear {q : QT} (hg : GOk sdX q) {a1 : Int32} {a2 : Int32} {μ : Mm} {ν : Ml} {o : Int32 × Mm} (ho : F_BT_hear a1 a2 μ = some o) : Ct sdX q y_BT_hear prog_1_method_25_code 3 (some (FieldType.int)) 1 [.ref (q.2.2.1 0), .int a1, .int a2] μ ν ((φIm ν) o).1 ((φIm ν) o).2.1 ((φIm ν) o).2.2 := Ct_of rfl hg (fun z C => w_BT_hear C) (Nat.le_of_ble_eq_true rfl) ho
def F_Seat_isAway (this : Nat) (a1 : Int32) (μ : Mm) : Option (Int32) := (F_BT_bit (μ this 7) a1).bind fun v1 => (rZ v1).bind fun r_ => some r_
theorem d_Seat_isAway_0 : decode prog_7_method_6_code 0 = .ok (.aload_n 0, 1) := by decide +kernel
theorem d_Seat_isAway_4 : decode prog_7_method_6_code 4 = .ok (.iload_n 1, 1) := by decide +kernel
theorem d_Seat_isAway_5 : decode prog_7_method_6_code 5 = .ok (.invokestatic 92, 3) := by decide +kernel
theorem d_Seat_isAway_8 : decode prog_7_method_6_code 8 = .ok (.ireturn, 1) := by decide +kernel
theorem d_Seat_isAway_1 : decode prog_7_method_6_code 1 = .ok (.getfield 68, 3) := by decide +kernel
set_option maxRecDepth 10000 in
set_option maxHeartbeats 4000000 in
theorem w_Seat_isAway {q : QT} {z : ZT} {this : Nat} {a1 : Int32} {μ : Mm} {ν : Ml} (C : Ctx sdX q z prog_7_method_6_code "BesideTom$Seating" 2 1 (some (FieldType.boolean))) (h_this : this ∈ seats) : R sdX q z 2 (φI μ ν) (F_Seat_isAway this a1 μ) μ ν 0 [(0, .ref (q.2.2.1 this)), (1, .int a1)] [] := by
  unfold F_Seat_isAway
  refine R_aload_n C 0 d_Seat_isAway_0 rfl rfl ?_
  refine gf_Seat_away C h_this fl_Seat_68 d_Seat_isAway_1 ?_
  refine R_iload_n C 1 d_Seat_isAway_4 rfl rfl ?_
  refine R_bind (fun v1 h2 => ?_)
  refine R_callSN C cf_BT_bit (C.2.2.2.2.2.2.2.1.2.2.2.2.2.2.1) sm_BT_bit (c_BT_bit (gk C) h2) (by decide) (by decide) rfl rfl (Nat.le_of_ble_eq_true rfl) d_Seat_isAway_5 ?_
  exact R_zretG C (fun a => ⟨_, rfl, rfl⟩) d_Seat_isAway_8
theorem c_Seat_isAway {q : QT} (hg : GOk sdX q) {this : Nat} {a1 : Int32} {μ : Mm} {ν : Ml} (h_this : this ∈ seats) {o : Int32} (ho : F_Seat_isAway this a1 μ = some o) : Ct sdX q y_Seat_isAway prog_7_method_6_code 2 (some (FieldType.boolean)) 1 [.ref (q.2.2.1 this), .int a1] μ ν ((φI μ ν) o).1 ((φI μ ν) o).2.1 ((φI μ ν) o).2.2 := Ct_of rfl hg (fun z C => w_Seat_isAway C h_this) (Nat.le_of_ble_eq_true rfl) ho
def F_BT_isDesk (a0 : Int32) : Option (Int32) := (F_BT_within a0 0 5).bind fun v1 => (rZ v1).bind fun r_ => some r_
theorem d_BT_isDesk_0 : decode prog_1_method_49_code 0 = .ok (.iload_n 0, 1) := by decide +kernel
theorem d_BT_isDesk_1 : decode prog_1_method_49_code 1 = .ok (.iconst 0, 1) := by decide +kernel
theorem d_BT_isDesk_2 : decode prog_1_method_49_code 2 = .ok (.iconst 5, 1) := by decide +kernel
theorem d_BT_isDesk_3 : decode prog_1_method_49_code 3 = .ok (.invokestatic 76, 3) := by decide +kernel
theorem d_BT_isDesk_6 : decode prog_1_method_49_code 6 = .ok (.ireturn, 1) := by decide +kernel
set_option maxRecDepth 10000 in
set_option maxHeartbeats 4000000 in
theorem w_BT_isDesk {q : QT} {z : ZT} {a0 : Int32} {μ : Mm} {ν : Ml} (C : Ctx sdX q z prog_1_method_49_code "BesideTom" 1 1 (some (FieldType.boolean))) : R sdX q z 1 (φI μ ν) (F_BT_isDesk a0) μ ν 0 [(0, .int a0)] [] := by
  unfold F_BT_isDesk
  refine R_iload_n C 0 d_BT_isDesk_0 rfl rfl ?_
  refine R_iconst C d_BT_isDesk_1 (v := 0) (by decide +kernel) ?_
  refine R_iconst C d_BT_isDesk_2 (v := 5) (by decide +kernel) ?_
  refine R_bind (fun v1 h2 => ?_)
  refine R_callS C cf_BT_within ml_BT_76 sm_BT_within (c_BT_within (gk C) h2) (by decide) (by decide) rfl rfl (Nat.le_of_ble_eq_true rfl) d_BT_isDesk_3 ?_
  exact R_zretG C (fun a => ⟨_, rfl, rfl⟩) d_BT_isDesk_6
theorem c_BT_isDesk {q : QT} (hg : GOk sdX q) {a0 : Int32} {μ : Mm} {ν : Ml} {o : Int32} (ho : F_BT_isDesk a0 = some o) : Ct sdX q y_BT_isDesk prog_1_method_49_code 1 (some (FieldType.boolean)) 1 [.int a0] μ ν ((φI μ ν) o).1 ((φI μ ν) o).2.1 ((φI μ ν) o).2.2 := Ct_of rfl hg (fun z C => w_BT_isDesk C) (Nat.le_of_ble_eq_true rfl) ho
def F_BT_isOfPupil (a1 : Int32) (μ : Mm) : Option (Int32) := (if a1 < 10 then some 0 else (F_Seat_has 40 (a1 - 10) μ).bind fun v1 => (if v1 = 0 then some 0 else some 1))
theorem d_BT_isOfPupil_0 : decode prog_1_method_48_code 0 = .ok (.iload_n 1, 1) := by decide +kernel
theorem d_BT_isOfPupil_1 : decode prog_1_method_48_code 1 = .ok (.bipush 10, 2) := by decide +kernel
theorem d_BT_isOfPupil_24 : decode prog_1_method_48_code 24 = .ok (.iconst 0, 1) := by decide +kernel
theorem d_BT_isOfPupil_25 : decode prog_1_method_48_code 25 = .ok (.ireturn, 1) := by decide +kernel
theorem d_BT_isOfPupil_6 : decode prog_1_method_48_code 6 = .ok (.aload_n 0, 1) := by decide +kernel
theorem d_BT_isOfPupil_10 : decode prog_1_method_48_code 10 = .ok (.iload_n 1, 1) := by decide +kernel
theorem d_BT_isOfPupil_11 : decode prog_1_method_48_code 11 = .ok (.bipush 10, 2) := by decide +kernel
theorem d_BT_isOfPupil_13 : decode prog_1_method_48_code 13 = .ok (.isub, 1) := by decide +kernel
theorem d_BT_isOfPupil_14 : decode prog_1_method_48_code 14 = .ok (.invokevirtual 92, 3) := by decide +kernel
theorem d_BT_isOfPupil_20 : decode prog_1_method_48_code 20 = .ok (.iconst 1, 1) := by decide +kernel
theorem d_BT_isOfPupil_21 : decode prog_1_method_48_code 21 = .ok (.goto 4, 3) := by decide +kernel
theorem d_BT_isOfPupil_17 : decode prog_1_method_48_code 17 = .ok (.ifCond .eq 7, 3) := by decide +kernel
theorem d_BT_isOfPupil_7 : decode prog_1_method_48_code 7 = .ok (.getfield 52, 3) := by decide +kernel
theorem d_BT_isOfPupil_3 : decode prog_1_method_48_code 3 = .ok (.if_icmp .lt 21, 3) := by decide +kernel
set_option maxRecDepth 10000 in
set_option maxHeartbeats 4000000 in
theorem w_BT_isOfPupil {q : QT} {z : ZT} {a1 : Int32} {μ : Mm} {ν : Ml} (C : Ctx sdX q z prog_1_method_48_code "BesideTom" 2 1 (some (FieldType.boolean))) : R sdX q z 2 (φI μ ν) (F_BT_isOfPupil a1 μ) μ ν 0 [(0, .ref (q.2.2.1 0)), (1, .int a1)] [] := by
  unfold F_BT_isOfPupil
  refine R_iload_n C 1 d_BT_isOfPupil_0 rfl rfl ?_
  refine R_bipush C d_BT_isOfPupil_1 (v := 10) (by decide +kernel) ?_
  refine R_icmp_lt C d_BT_isOfPupil_3 (tgt := 24) (by decide) ?_ ?_
  · skip
    refine R_iconst C d_BT_isOfPupil_24 (v := 0) (by decide +kernel) ?_
    exact R_zret C (by decide) rfl d_BT_isOfPupil_25
  · skip
    refine R_aload_n C 0 d_BT_isOfPupil_6 rfl rfl ?_
    refine gf_BT_now C fl_BT_52 d_BT_isOfPupil_7 ?_
    refine R_iload_n C 1 d_BT_isOfPupil_10 rfl rfl ?_
    refine R_bipush C d_BT_isOfPupil_11 (v := 10) (by decide +kernel) ?_
    refine R_isub C d_BT_isOfPupil_13 ?_
    refine R_bind (fun v1 h2 => ?_)
    refine R_callV C (se_0 s40) (sc_0 s40 q _ _) rfl cf_Seat_has rfl ml_BT_92 im_Seat_has sl_Seat_Seat_has_Seat_has (c_Seat_has (gk C) s40 h2) (by decide) (by decide) rfl rfl (Nat.le_of_ble_eq_true rfl) d_BT_isOfPupil_14 ?_
    refine R_if_eq C d_BT_isOfPupil_17 (tgt := 24) (by decide) ?_ ?_
    · skip
      refine R_iconst C d_BT_isOfPupil_24 (v := 0) (by decide +kernel) ?_
      exact R_zret C (by decide) rfl d_BT_isOfPupil_25
    · skip
      refine R_iconst C d_BT_isOfPupil_20 (v := 1) (by decide +kernel) ?_
      refine R_goto C d_BT_isOfPupil_21 (tgt := 25) (by decide) ?_
      exact R_zret C (by decide) rfl d_BT_isOfPupil_25
theorem c_BT_isOfPupil {q : QT} (hg : GOk sdX q) {a1 : Int32} {μ : Mm} {ν : Ml} {o : Int32} (ho : F_BT_isOfPupil a1 μ = some o) : Ct sdX q y_BT_isOfPupil prog_1_method_48_code 2 (some (FieldType.boolean)) 1 [.ref (q.2.2.1 0), .int a1] μ ν ((φI μ ν) o).1 ((φI μ ν) o).2.1 ((φI μ ν) o).2.2 := Ct_of rfl hg (fun z C => w_BT_isOfPupil C) (Nat.le_of_ble_eq_true rfl) ho
def F_BT_isTape (a0 : Int32) : Option (Int32) := (F_BT_within a0 0 5).bind fun v1 => (rZ v1).bind fun r_ => some r_
theorem d_BT_isTape_0 : decode prog_1_method_50_code 0 = .ok (.iload_n 0, 1) := by decide +kernel
theorem d_BT_isTape_1 : decode prog_1_method_50_code 1 = .ok (.iconst 0, 1) := by decide +kernel
theorem d_BT_isTape_2 : decode prog_1_method_50_code 2 = .ok (.iconst 5, 1) := by decide +kernel
theorem d_BT_isTape_3 : decode prog_1_method_50_code 3 = .ok (.invokestatic 76, 3) := by decide +kernel
theorem d_BT_isTape_6 : decode prog_1_method_50_code 6 = .ok (.ireturn, 1) := by decide +kernel
set_option maxRecDepth 10000 in
set_option maxHeartbeats 4000000 in
theorem w_BT_isTape {q : QT} {z : ZT} {a0 : Int32} {μ : Mm} {ν : Ml} (C : Ctx sdX q z prog_1_method_50_code "BesideTom" 1 1 (some (FieldType.boolean))) : R sdX q z 1 (φI μ ν) (F_BT_isTape a0) μ ν 0 [(0, .int a0)] [] := by
  unfold F_BT_isTape
  refine R_iload_n C 0 d_BT_isTape_0 rfl rfl ?_
  refine R_iconst C d_BT_isTape_1 (v := 0) (by decide +kernel) ?_
  refine R_iconst C d_BT_isTape_2 (v := 5) (by decide +kernel) ?_
  refine R_bind (fun v1 h2 => ?_)
  refine R_callS C cf_BT_within ml_BT_76 sm_BT_within (c_BT_within (gk C) h2) (by decide) (by decide) rfl rfl (Nat.le_of_ble_eq_true rfl) d_BT_isTape_3 ?_
  exact R_zretG C (fun a => ⟨_, rfl, rfl⟩) d_BT_isTape_6
theorem c_BT_isTape {q : QT} (hg : GOk sdX q) {a0 : Int32} {μ : Mm} {ν : Ml} {o : Int32} (ho : F_BT_isTape a0 = some o) : Ct sdX q y_BT_isTape prog_1_method_50_code 1 (some (FieldType.boolean)) 1 [.int a0] μ ν ((φI μ ν) o).1 ((φI μ ν) o).2.1 ((φI μ ν) o).2.2 := Ct_of rfl hg (fun z C => w_BT_isTape C) (Nat.le_of_ble_eq_true rfl) ho
def F_Quiet_isUnder (this : Nat) (a1 : Int32) : Option (Int32) := jn (α := Unit) (fun K3 => (if a1 = 2 then K3 () else (F_PK_isUnder this a1).bind fun v1 => (if v1 = 0 then some 0 else K3 ()))) (fun (_ : Unit) => some 1)
theorem d_Quiet_isUnder_0 : decode prog_4_method_2_code 0 = .ok (.iload_n 1, 1) := by decide +kernel
theorem d_Quiet_isUnder_1 : decode prog_4_method_2_code 1 = .ok (.iconst 2, 1) := by decide +kernel
theorem d_Quiet_isUnder_5 : decode prog_4_method_2_code 5 = .ok (.aload_n 0, 1) := by decide +kernel
theorem d_Quiet_isUnder_6 : decode prog_4_method_2_code 6 = .ok (.iload_n 1, 1) := by decide +kernel
theorem d_Quiet_isUnder_7 : decode prog_4_method_2_code 7 = .ok (.invokespecial 7, 3) := by decide +kernel
theorem d_Quiet_isUnder_17 : decode prog_4_method_2_code 17 = .ok (.iconst 0, 1) := by decide +kernel
theorem d_Quiet_isUnder_18 : decode prog_4_method_2_code 18 = .ok (.ireturn, 1) := by decide +kernel
theorem d_Quiet_isUnder_10 : decode prog_4_method_2_code 10 = .ok (.ifCond .eq 7, 3) := by decide +kernel
theorem d_Quiet_isUnder_2 : decode prog_4_method_2_code 2 = .ok (.if_icmp .eq 11, 3) := by decide +kernel
theorem d_Quiet_isUnder_13 : decode prog_4_method_2_code 13 = .ok (.iconst 1, 1) := by decide +kernel
theorem d_Quiet_isUnder_14 : decode prog_4_method_2_code 14 = .ok (.goto 4, 3) := by decide +kernel
set_option maxRecDepth 10000 in
set_option maxHeartbeats 4000000 in
theorem w_Quiet_isUnder {q : QT} {z : ZT} {this : Nat} {a1 : Int32} {μ : Mm} {ν : Ml} (C : Ctx sdX q z prog_4_method_2_code "BesideTom$QuietKind" 2 1 (some (FieldType.boolean))) (h_this : this ∈ kd_Quiet) : R sdX q z 2 (φI μ ν) (F_Quiet_isUnder this a1) μ ν 0 [(0, .ref (q.2.2.1 this)), (1, .int a1)] [] := by
  unfold F_Quiet_isUnder
  refine R_iload_n C 1 d_Quiet_isUnder_0 rfl rfl ?_
  refine R_iconst C d_Quiet_isUnder_1 (v := 2) (by decide +kernel) ?_
  refine R_jn (fun K3 => R sdX q z 2 (φI μ ν) (K3 ()) μ ν 13 [] []) ?_ (fun K3 hK3 => ?_)
  · skip
    refine R_iconst C d_Quiet_isUnder_13 (v := 1) (by decide +kernel) ?_
    refine R_goto C d_Quiet_isUnder_14 (tgt := 18) (by decide) ?_
    exact R_zret C (by decide) rfl d_Quiet_isUnder_18
  · skip
    refine R_icmp_eq C d_Quiet_isUnder_2 (tgt := 13) (by decide) ?_ ?_
    · skip
      exact R_sub [] rfl (hK3)
    · skip
      refine R_aload_n C 0 d_Quiet_isUnder_5 rfl rfl ?_
      refine R_iload_n C 1 d_Quiet_isUnder_6 rfl rfl ?_
      refine R_bind (fun v1 h2 => ?_)
      obtain ⟨ci_, Cn_, T_, N_, hq1_, hq2_⟩ := kc_0 (kdup (A := kd_Quiet) (by decide) h_this) q (μ this) (ν this)
      refine R_callSU C (ke_0 (kdup (A := kd_Quiet) (by decide) h_this)) hq1_ hq2_ cf_PK_isUnder (by decide) ml_Quiet_7 sa_PK_PK_isUnder su_Quiet_PK im_PK_isUnder (c_PK_isUnder (gk C) (kdup (A := kd_Quiet) (by decide) h_this) h2) (by decide) (by decide) rfl rfl (Nat.le_of_ble_eq_true rfl) d_Quiet_isUnder_7 ?_
      refine R_if_eq C d_Quiet_isUnder_10 (tgt := 17) (by decide) ?_ ?_
      · skip
        refine R_iconst C d_Quiet_isUnder_17 (v := 0) (by decide +kernel) ?_
        exact R_zret C (by decide) rfl d_Quiet_isUnder_18
      · skip
        exact R_sub [] rfl (hK3)
theorem c_Quiet_isUnder {q : QT} (hg : GOk sdX q) {this : Nat} {a1 : Int32} {μ : Mm} {ν : Ml} (h_this : this ∈ kd_Quiet) {o : Int32} (ho : F_Quiet_isUnder this a1 = some o) : Ct sdX q y_Quiet_isUnder prog_4_method_2_code 2 (some (FieldType.boolean)) 1 [.ref (q.2.2.1 this), .int a1] μ ν ((φI μ ν) o).1 ((φI μ ν) o).2.1 ((φI μ ν) o).2.2 := Ct_of rfl hg (fun z C => w_Quiet_isUnder C h_this) (Nat.le_of_ble_eq_true rfl) ho
def F_Short_isUnder (this : Nat) (a1 : Int32) : Option (Int32) := jn (α := Unit) (fun K3 => (if a1 = 3 then K3 () else (F_PK_isUnder this a1).bind fun v1 => (if v1 = 0 then some 0 else K3 ()))) (fun (_ : Unit) => some 1)
theorem d_Short_isUnder_0 : decode prog_8_method_2_code 0 = .ok (.iload_n 1, 1) := by decide +kernel
theorem d_Short_isUnder_1 : decode prog_8_method_2_code 1 = .ok (.iconst 3, 1) := by decide +kernel
theorem d_Short_isUnder_5 : decode prog_8_method_2_code 5 = .ok (.aload_n 0, 1) := by decide +kernel
theorem d_Short_isUnder_6 : decode prog_8_method_2_code 6 = .ok (.iload_n 1, 1) := by decide +kernel
theorem d_Short_isUnder_7 : decode prog_8_method_2_code 7 = .ok (.invokespecial 7, 3) := by decide +kernel
theorem d_Short_isUnder_17 : decode prog_8_method_2_code 17 = .ok (.iconst 0, 1) := by decide +kernel
theorem d_Short_isUnder_18 : decode prog_8_method_2_code 18 = .ok (.ireturn, 1) := by decide +kernel
theorem d_Short_isUnder_10 : decode prog_8_method_2_code 10 = .ok (.ifCond .eq 7, 3) := by decide +kernel
theorem d_Short_isUnder_2 : decode prog_8_method_2_code 2 = .ok (.if_icmp .eq 11, 3) := by decide +kernel
theorem d_Short_isUnder_13 : decode prog_8_method_2_code 13 = .ok (.iconst 1, 1) := by decide +kernel
theorem d_Short_isUnder_14 : decode prog_8_method_2_code 14 = .ok (.goto 4, 3) := by decide +kernel
set_option maxRecDepth 10000 in
set_option maxHeartbeats 4000000 in
theorem w_Short_isUnder {q : QT} {z : ZT} {this : Nat} {a1 : Int32} {μ : Mm} {ν : Ml} (C : Ctx sdX q z prog_8_method_2_code "BesideTom$ShortKind" 2 1 (some (FieldType.boolean))) (h_this : this ∈ kd_Short) : R sdX q z 2 (φI μ ν) (F_Short_isUnder this a1) μ ν 0 [(0, .ref (q.2.2.1 this)), (1, .int a1)] [] := by
  unfold F_Short_isUnder
  refine R_iload_n C 1 d_Short_isUnder_0 rfl rfl ?_
  refine R_iconst C d_Short_isUnder_1 (v := 3) (by decide +kernel) ?_
  refine R_jn (fun K3 => R sdX q z 2 (φI μ ν) (K3 ()) μ ν 13 [] []) ?_ (fun K3 hK3 => ?_)
  · skip
    refine R_iconst C d_Short_isUnder_13 (v := 1) (by decide +kernel) ?_
    refine R_goto C d_Short_isUnder_14 (tgt := 18) (by decide) ?_
    exact R_zret C (by decide) rfl d_Short_isUnder_18
  · skip
    refine R_icmp_eq C d_Short_isUnder_2 (tgt := 13) (by decide) ?_ ?_
    · skip
      exact R_sub [] rfl (hK3)
    · skip
      refine R_aload_n C 0 d_Short_isUnder_5 rfl rfl ?_
      refine R_iload_n C 1 d_Short_isUnder_6 rfl rfl ?_
      refine R_bind (fun v1 h2 => ?_)
      obtain ⟨ci_, Cn_, T_, N_, hq1_, hq2_⟩ := kc_0 (kdup (A := kd_Short) (by decide) h_this) q (μ this) (ν this)
      refine R_callSU C (ke_0 (kdup (A := kd_Short) (by decide) h_this)) hq1_ hq2_ cf_PK_isUnder (by decide) ml_Short_7 sa_PK_PK_isUnder su_Short_PK im_PK_isUnder (c_PK_isUnder (gk C) (kdup (A := kd_Short) (by decide) h_this) h2) (by decide) (by decide) rfl rfl (Nat.le_of_ble_eq_true rfl) d_Short_isUnder_7 ?_
      refine R_if_eq C d_Short_isUnder_10 (tgt := 17) (by decide) ?_ ?_
      · skip
        refine R_iconst C d_Short_isUnder_17 (v := 0) (by decide +kernel) ?_
        exact R_zret C (by decide) rfl d_Short_isUnder_18
      · skip
        exact R_sub [] rfl (hK3)
theorem c_Short_isUnder {q : QT} (hg : GOk sdX q) {this : Nat} {a1 : Int32} {μ : Mm} {ν : Ml} (h_this : this ∈ kd_Short) {o : Int32} (ho : F_Short_isUnder this a1 = some o) : Ct sdX q y_Short_isUnder prog_8_method_2_code 2 (some (FieldType.boolean)) 1 [.ref (q.2.2.1 this), .int a1] μ ν ((φI μ ν) o).1 ((φI μ ν) o).2.1 ((φI μ ν) o).2.2 := Ct_of rfl hg (fun z C => w_Short_isUnder C h_this) (Nat.le_of_ble_eq_true rfl) ho
def F_Talk_isUnder (this : Nat) (a1 : Int32) : Option (Int32) := jn (α := Unit) (fun K3 => (if a1 = 1 then K3 () else (F_PK_isUnder this a1).bind fun v1 => (if v1 = 0 then some 0 else K3 ()))) (fun (_ : Unit) => some 1)
theorem d_Talk_isUnder_0 : decode prog_9_method_2_code 0 = .ok (.iload_n 1, 1) := by decide +kernel
theorem d_Talk_isUnder_1 : decode prog_9_method_2_code 1 = .ok (.iconst 1, 1) := by decide +kernel
theorem d_Talk_isUnder_5 : decode prog_9_method_2_code 5 = .ok (.aload_n 0, 1) := by decide +kernel
theorem d_Talk_isUnder_6 : decode prog_9_method_2_code 6 = .ok (.iload_n 1, 1) := by decide +kernel
theorem d_Talk_isUnder_7 : decode prog_9_method_2_code 7 = .ok (.invokespecial 7, 3) := by decide +kernel
theorem d_Talk_isUnder_17 : decode prog_9_method_2_code 17 = .ok (.iconst 0, 1) := by decide +kernel
theorem d_Talk_isUnder_18 : decode prog_9_method_2_code 18 = .ok (.ireturn, 1) := by decide +kernel
theorem d_Talk_isUnder_10 : decode prog_9_method_2_code 10 = .ok (.ifCond .eq 7, 3) := by decide +kernel
theorem d_Talk_isUnder_2 : decode prog_9_method_2_code 2 = .ok (.if_icmp .eq 11, 3) := by decide +kernel
theorem d_Talk_isUnder_13 : decode prog_9_method_2_code 13 = .ok (.iconst 1, 1) := by decide +kernel
theorem d_Talk_isUnder_14 : decode prog_9_method_2_code 14 = .ok (.goto 4, 3) := by decide +kernel
set_option maxRecDepth 10000 in
set_option maxHeartbeats 4000000 in
theorem w_Talk_isUnder {q : QT} {z : ZT} {this : Nat} {a1 : Int32} {μ : Mm} {ν : Ml} (C : Ctx sdX q z prog_9_method_2_code "BesideTom$TalkerKind" 2 1 (some (FieldType.boolean))) (h_this : this ∈ kd_Talk) : R sdX q z 2 (φI μ ν) (F_Talk_isUnder this a1) μ ν 0 [(0, .ref (q.2.2.1 this)), (1, .int a1)] [] := by
  unfold F_Talk_isUnder
  refine R_iload_n C 1 d_Talk_isUnder_0 rfl rfl ?_
  refine R_iconst C d_Talk_isUnder_1 (v := 1) (by decide +kernel) ?_
  refine R_jn (fun K3 => R sdX q z 2 (φI μ ν) (K3 ()) μ ν 13 [] []) ?_ (fun K3 hK3 => ?_)
  · skip
    refine R_iconst C d_Talk_isUnder_13 (v := 1) (by decide +kernel) ?_
    refine R_goto C d_Talk_isUnder_14 (tgt := 18) (by decide) ?_
    exact R_zret C (by decide) rfl d_Talk_isUnder_18
  · skip
    refine R_icmp_eq C d_Talk_isUnder_2 (tgt := 13) (by decide) ?_ ?_
    · skip
      exact R_sub [] rfl (hK3)
    · skip
      refine R_aload_n C 0 d_Talk_isUnder_5 rfl rfl ?_
      refine R_iload_n C 1 d_Talk_isUnder_6 rfl rfl ?_
      refine R_bind (fun v1 h2 => ?_)
      obtain ⟨ci_, Cn_, T_, N_, hq1_, hq2_⟩ := kc_0 (kdup (A := kd_Talk) (by decide) h_this) q (μ this) (ν this)
      refine R_callSU C (ke_0 (kdup (A := kd_Talk) (by decide) h_this)) hq1_ hq2_ cf_PK_isUnder (by decide) ml_Talk_7 sa_PK_PK_isUnder su_Talk_PK im_PK_isUnder (c_PK_isUnder (gk C) (kdup (A := kd_Talk) (by decide) h_this) h2) (by decide) (by decide) rfl rfl (Nat.le_of_ble_eq_true rfl) d_Talk_isUnder_7 ?_
      refine R_if_eq C d_Talk_isUnder_10 (tgt := 17) (by decide) ?_ ?_
      · skip
        refine R_iconst C d_Talk_isUnder_17 (v := 0) (by decide +kernel) ?_
        exact R_zret C (by decide) rfl d_Talk_isUnder_18
      · skip
        exact R_sub [] rfl (hK3)
theorem c_Talk_isUnder {q : QT} (hg : GOk sdX q) {this : Nat} {a1 : Int32} {μ : Mm} {ν : Ml} (h_this : this ∈ kd_Talk) {o : Int32} (ho : F_Talk_isUnder this a1 = some o) : Ct sdX q y_Talk_isUnder prog_9_method_2_code 2 (some (FieldType.boolean)) 1 [.ref (q.2.2.1 this), .int a1] μ ν ((φI μ ν) o).1 ((φI μ ν) o).2.1 ((φI μ ν) o).2.2 := Ct_of rfl hg (fun z C => w_Talk_isUnder C h_this) (Nat.le_of_ble_eq_true rfl) ho
def F_BT_knows (a1 : Int32) (a2 : Int32) (μ : Mm) : Option (Int32 × Mm) := (F_Seat_has 40 a1 μ).bind fun v1 => (if v1 = 0 then some ((-1), μ) else (F_BT_within a2 0 9999).bind fun v3 => (if v3 = 0 then some ((-2), μ) else (rdI (μ 44) 6 a1).bind fun v5 => (wrI μ 44 6 a1 a2).bind fun μ6 => some (v5, μ6)))
theorem d_BT_knows_0 : decode prog_1_method_6_code 0 = .ok (.aload_n 0, 1) := by decide +kernel
theorem d_BT_knows_4 : decode prog_1_method_6_code 4 = .ok (.iload_n 1, 1) := by decide +kernel
theorem d_BT_knows_5 : decode prog_1_method_6_code 5 = .ok (.invokevirtual 92, 3) := by decide +kernel
theorem d_BT_knows_13 : decode prog_1_method_6_code 13 = .ok (.iload_n 2, 1) := by decide +kernel
theorem d_BT_knows_14 : decode prog_1_method_6_code 14 = .ok (.iconst 0, 1) := by decide +kernel
theorem d_BT_knows_15 : decode prog_1_method_6_code 15 = .ok (.sipush 9999, 3) := by decide +kernel
theorem d_BT_knows_18 : decode prog_1_method_6_code 18 = .ok (.invokestatic 76, 3) := by decide +kernel
theorem d_BT_knows_27 : decode prog_1_method_6_code 27 = .ok (.aload_n 0, 1) := by decide +kernel
theorem d_BT_knows_34 : decode prog_1_method_6_code 34 = .ok (.iload_n 1, 1) := by decide +kernel
theorem d_BT_knows_36 : decode prog_1_method_6_code 36 = .ok (.istore_n 3, 1) := by decide +kernel
theorem d_BT_knows_37 : decode prog_1_method_6_code 37 = .ok (.aload_n 0, 1) := by decide +kernel
theorem d_BT_knows_44 : decode prog_1_method_6_code 44 = .ok (.iload_n 1, 1) := by decide +kernel
theorem d_BT_knows_45 : decode prog_1_method_6_code 45 = .ok (.iload_n 2, 1) := by decide +kernel
theorem d_BT_knows_47 : decode prog_1_method_6_code 47 = .ok (.iload_n 3, 1) := by decide +kernel
theorem d_BT_knows_48 : decode prog_1_method_6_code 48 = .ok (.ireturn, 1) := by decide +kernel
theorem d_BT_knows_46 : decode prog_1_method_6_code 46 = .ok (.iastore, 1) := by decide +kernel
theorem d_BT_knows_41 : decode prog_1_method_6_code 41 = .ok (.getfield 108, 3) := by decide +kernel
theorem d_BT_knows_38 : decode prog_1_method_6_code 38 = .ok (.getfield 52, 3) := by decide +kernel
theorem d_BT_knows_31 : decode prog_1_method_6_code 31 = .ok (.getfield 108, 3) := by decide +kernel
theorem d_BT_knows_28 : decode prog_1_method_6_code 28 = .ok (.getfield 52, 3) := by decide +kernel
theorem d_BT_knows_24 : decode prog_1_method_6_code 24 = .ok (.bipush (-2), 2) := by decide +kernel
theorem d_BT_knows_26 : decode prog_1_method_6_code 26 = .ok (.ireturn, 1) := by decide +kernel
theorem d_BT_knows_21 : decode prog_1_method_6_code 21 = .ok (.ifCond .ne 6, 3) := by decide +kernel
theorem d_BT_knows_11 : decode prog_1_method_6_code 11 = .ok (.iconst (-1), 1) := by decide +kernel
theorem d_BT_knows_12 : decode prog_1_method_6_code 12 = .ok (.ireturn, 1) := by decide +kernel
theorem d_BT_knows_8 : decode prog_1_method_6_code 8 = .ok (.ifCond .ne 5, 3) := by decide +kernel
theorem d_BT_knows_1 : decode prog_1_method_6_code 1 = .ok (.getfield 52, 3) := by decide +kernel
theorem d_BT_knows_35 : decode prog_1_method_6_code 35 = .ok (.iaload, 1) := by decide +kernel
set_option maxRecDepth 10000 in
set_option maxHeartbeats 4000000 in
theorem w_BT_knows {q : QT} {z : ZT} {a1 : Int32} {a2 : Int32} {μ : Mm} {ν : Ml} (C : Ctx sdX q z prog_1_method_6_code "BesideTom" 4 1 (some (FieldType.int))) : R sdX q z 4 (φIm ν) (F_BT_knows a1 a2 μ) μ ν 0 [(0, .ref (q.2.2.1 0)), (1, .int a1), (2, .int a2)] [] := by
  unfold F_BT_knows
  refine R_aload_n C 0 d_BT_knows_0 rfl rfl ?_
  refine gf_BT_now C fl_BT_52 d_BT_knows_1 ?_
  refine R_iload_n C 1 d_BT_knows_4 rfl rfl ?_
  refine R_bind (fun v1 h2 => ?_)
  refine R_callV C (se_0 s40) (sc_0 s40 q _ _) rfl cf_Seat_has rfl ml_BT_92 im_Seat_has sl_Seat_Seat_has_Seat_has (c_Seat_has (gk C) s40 h2) (by decide) (by decide) rfl rfl (Nat.le_of_ble_eq_true rfl) d_BT_knows_5 ?_
  refine R_if_ne C d_BT_knows_8 (tgt := 13) (by decide) ?_ ?_
  · skip
    refine R_iload_n C 2 d_BT_knows_13 rfl rfl ?_
    refine R_iconst C d_BT_knows_14 (v := 0) (by decide +kernel) ?_
    refine R_sipush C d_BT_knows_15 (v := 9999) (by decide +kernel) ?_
    refine R_bind (fun v3 h4 => ?_)
    refine R_callS C cf_BT_within ml_BT_76 sm_BT_within (c_BT_within (gk C) h4) (by decide) (by decide) rfl rfl (Nat.le_of_ble_eq_true rfl) d_BT_knows_18 ?_
    refine R_if_ne C d_BT_knows_21 (tgt := 27) (by decide) ?_ ?_
    · skip
      refine R_aload_n C 0 d_BT_knows_27 rfl rfl ?_
      refine gf_BT_now C fl_BT_52 d_BT_knows_28 ?_
      refine gf_Seat_knows C s40 fl_BT_108 d_BT_knows_31 ?_
      refine R_iload_n C 1 d_BT_knows_34 rfl rfl ?_
      refine R_iald C (se_4 s40) (sc_4 s40 q _ _) d_BT_knows_35 (fun v5 => ?_)
      refine R_istore_n C (lv' := [(3, .int v5), (0, .ref (q.2.2.1 0)), (1, .int a1), (2, .int a2)]) d_BT_knows_36 rfl (by decide) rfl ?_
      refine R_aload_n C 1 d_BT_knows_37 rfl rfl ?_
      refine gf_BT_now C fl_BT_52 d_BT_knows_38 ?_
      refine gf_Seat_knows C s40 fl_BT_108 d_BT_knows_41 ?_
      refine R_iload_n C 2 d_BT_knows_44 rfl rfl ?_
      refine R_iload_n C 3 d_BT_knows_45 rfl rfl ?_
      refine R_iast C (se_4 s40) (fun h => sc_4 s40 q h _) d_BT_knows_46 (fun μ6 => ?_)
      refine R_iload_n C 0 d_BT_knows_47 rfl rfl ?_
      exact R_iret C rfl d_BT_knows_48
    · skip
      refine R_bipush C d_BT_knows_24 (v := (-2)) (by decide +kernel) ?_
      exact R_iret C rfl d_BT_knows_26
  · skip
    refine R_iconst C d_BT_knows_11 (v := (-1)) (by decide +kernel) ?_
    exact R_iret C rfl d_BT_knows_12
theorem c_BT_knows {q : QT} (hg : GOk sdX q) {a1 : Int32} {a2 : Int32} {μ : Mm} {ν : Ml} {o : Int32 × Mm} (ho : F_BT_knows a1 a2 μ = some o) : Ct sdX q y_BT_knows prog_1_method_6_code 4 (some (FieldType.int)) 1 [.ref (q.2.2.1 0), .int a1, .int a2] μ ν ((φIm ν) o).1 ((φIm ν) o).2.1 ((φIm ν) o).2.2 := Ct_of rfl hg (fun z C => w_BT_knows C) (Nat.le_of_ble_eq_true rfl) ho
def F_Quiet_learning (this : Nat) (a1 : Int32) (a2 : Int32) (a3 : Int32) (a4 : Int32) : Option (Int32) := (F_PK_learning this a1 a2 a3 a4).bind fun v1 => some (v1 - a2)
theorem d_Quiet_learning_0 : decode prog_4_method_4_code 0 = .ok (.aload_n 0, 1) := by decide +kernel
theorem d_Quiet_learning_1 : decode prog_4_method_4_code 1 = .ok (.iload_n 1, 1) := by decide +kernel
theorem d_Quiet_learning_2 : decode prog_4_method_4_code 2 = .ok (.iload_n 2, 1) := by decide +kernel
theorem d_Quiet_learning_3 : decode prog_4_method_4_code 3 = .ok (.iload_n 3, 1) := by decide +kernel
theorem d_Quiet_learning_4 : decode prog_4_method_4_code 4 = .ok (.iload 4, 2) := by decide +kernel
theorem d_Quiet_learning_6 : decode prog_4_method_4_code 6 = .ok (.invokespecial 15, 3) := by decide +kernel
theorem d_Quiet_learning_9 : decode prog_4_method_4_code 9 = .ok (.iload_n 2, 1) := by decide +kernel
theorem d_Quiet_learning_10 : decode prog_4_method_4_code 10 = .ok (.isub, 1) := by decide +kernel
theorem d_Quiet_learning_11 : decode prog_4_method_4_code 11 = .ok (.ireturn, 1) := by decide +kernel
set_option maxRecDepth 10000 in
set_option maxHeartbeats 4000000 in
theorem w_Quiet_learning {q : QT} {z : ZT} {this : Nat} {a1 : Int32} {a2 : Int32} {a3 : Int32} {a4 : Int32} {μ : Mm} {ν : Ml} (C : Ctx sdX q z prog_4_method_4_code "BesideTom$QuietKind" 5 1 (some (FieldType.int))) (h_this : this ∈ kd_Quiet) : R sdX q z 5 (φI μ ν) (F_Quiet_learning this a1 a2 a3 a4) μ ν 0 [(0, .ref (q.2.2.1 this)), (1, .int a1), (2, .int a2), (3, .int a3), (4, .int a4)] [] := by
  unfold F_Quiet_learning
  refine R_aload_n C 0 d_Quiet_learning_0 rfl rfl ?_
  refine R_iload_n C 1 d_Quiet_learning_1 rfl rfl ?_
  refine R_iload_n C 2 d_Quiet_learning_2 rfl rfl ?_
  refine R_iload_n C 3 d_Quiet_learning_3 rfl rfl ?_
  refine R_iload C 4 d_Quiet_learning_4 rfl ?_
  refine R_bind (fun v1 h2 => ?_)
  obtain ⟨ci_, Cn_, T_, N_, hq1_, hq2_⟩ := kc_0 (kdup (A := kd_Quiet) (by decide) h_this) q (μ this) (ν this)
  refine R_callSU C (ke_0 (kdup (A := kd_Quiet) (by decide) h_this)) hq1_ hq2_ cf_PK_learning (by decide) ml_Quiet_15 sa_PK_PK_learning su_Quiet_PK im_PK_learning (c_PK_learning (gk C) (kdup (A := kd_Quiet) (by decide) h_this) h2) (by decide) (by decide) rfl rfl (Nat.le_of_ble_eq_true rfl) d_Quiet_learning_6 ?_
  refine R_iload_n C 2 d_Quiet_learning_9 rfl rfl ?_
  refine R_isub C d_Quiet_learning_10 ?_
  exact R_iret C rfl d_Quiet_learning_11
theorem c_Quiet_learning {q : QT} (hg : GOk sdX q) {this : Nat} {a1 : Int32} {a2 : Int32} {a3 : Int32} {a4 : Int32} {μ : Mm} {ν : Ml} (h_this : this ∈ kd_Quiet) {o : Int32} (ho : F_Quiet_learning this a1 a2 a3 a4 = some o) : Ct sdX q y_Quiet_learning prog_4_method_4_code 5 (some (FieldType.int)) 1 [.ref (q.2.2.1 this), .int a1, .int a2, .int a3, .int a4] μ ν ((φI μ ν) o).1 ((φI μ ν) o).2.1 ((φI μ ν) o).2.2 := Ct_of rfl hg (fun z C => w_Quiet_learning C h_this) (Nat.le_of_ble_eq_true rfl) ho
def F_Short_learning (this : Nat) (a1 : Int32) (a2 : Int32) (a3 : Int32) (a4 : Int32) : Option (Int32) := (F_PK_learning this a1 a2 a3 a4).bind fun v1 => (if a3 = 1 then some (v1 - 5) else some (v1 - 0))
theorem d_Short_learning_0 : decode prog_8_method_3_code 0 = .ok (.aload_n 0, 1) := by decide +kernel
theorem d_Short_learning_1 : decode prog_8_method_3_code 1 = .ok (.iload_n 1, 1) := by decide +kernel
theorem d_Short_learning_2 : decode prog_8_method_3_code 2 = .ok (.iload_n 2, 1) := by decide +kernel
theorem d_Short_learning_3 : decode prog_8_method_3_code 3 = .ok (.iload_n 3, 1) := by decide +kernel
theorem d_Short_learning_4 : decode prog_8_method_3_code 4 = .ok (.iload 4, 2) := by decide +kernel
theorem d_Short_learning_6 : decode prog_8_method_3_code 6 = .ok (.invokespecial 11, 3) := by decide +kernel
theorem d_Short_learning_9 : decode prog_8_method_3_code 9 = .ok (.iload_n 3, 1) := by decide +kernel
theorem d_Short_learning_10 : decode prog_8_method_3_code 10 = .ok (.iconst 1, 1) := by decide +kernel
theorem d_Short_learning_18 : decode prog_8_method_3_code 18 = .ok (.iconst 0, 1) := by decide +kernel
theorem d_Short_learning_19 : decode prog_8_method_3_code 19 = .ok (.isub, 1) := by decide +kernel
theorem d_Short_learning_20 : decode prog_8_method_3_code 20 = .ok (.ireturn, 1) := by decide +kernel
theorem d_Short_learning_14 : decode prog_8_method_3_code 14 = .ok (.iconst 5, 1) := by decide +kernel
theorem d_Short_learning_15 : decode prog_8_method_3_code 15 = .ok (.goto 4, 3) := by decide +kernel
theorem d_Short_learning_11 : decode prog_8_method_3_code 11 = .ok (.if_icmp .ne 7, 3) := by decide +kernel
set_option maxRecDepth 10000 in
set_option maxHeartbeats 4000000 in
theorem w_Short_learning {q : QT} {z : ZT} {this : Nat} {a1 : Int32} {a2 : Int32} {a3 : Int32} {a4 : Int32} {μ : Mm} {ν : Ml} (C : Ctx sdX q z prog_8_method_3_code "BesideTom$ShortKind" 5 1 (some (FieldType.int))) (h_this : this ∈ kd_Short) : R sdX q z 5 (φI μ ν) (F_Short_learning this a1 a2 a3 a4) μ ν 0 [(0, .ref (q.2.2.1 this)), (1, .int a1), (2, .int a2), (3, .int a3), (4, .int a4)] [] := by
  unfold F_Short_learning
  refine R_aload_n C 0 d_Short_learning_0 rfl rfl ?_
  refine R_iload_n C 1 d_Short_learning_1 rfl rfl ?_
  refine R_iload_n C 2 d_Short_learning_2 rfl rfl ?_
  refine R_iload_n C 3 d_Short_learning_3 rfl rfl ?_
  refine R_iload C 4 d_Short_learning_4 rfl ?_
  refine R_bind (fun v1 h2 => ?_)
  obtain ⟨ci_, Cn_, T_, N_, hq1_, hq2_⟩ := kc_0 (kdup (A := kd_Short) (by decide) h_this) q (μ this) (ν this)
  refine R_callSU C (ke_0 (kdup (A := kd_Short) (by decide) h_this)) hq1_ hq2_ cf_PK_learning (by decide) ml_Short_11 sa_PK_PK_learning su_Short_PK im_PK_learning (c_PK_learning (gk C) (kdup (A := kd_Short) (by decide) h_this) h2) (by decide) (by decide) rfl rfl (Nat.le_of_ble_eq_true rfl) d_Short_learning_6 ?_
  refine R_iload_n C 3 d_Short_learning_9 rfl rfl ?_
  refine R_iconst C d_Short_learning_10 (v := 1) (by decide +kernel) ?_
  refine R_icmp_ne C d_Short_learning_11 (tgt := 18) (by decide) ?_ ?_
  · skip
    refine R_iconst C d_Short_learning_18 (v := 0) (by decide +kernel) ?_
    refine R_isub C d_Short_learning_19 ?_
    exact R_iret C rfl d_Short_learning_20
  · skip
    refine R_iconst C d_Short_learning_14 (v := 5) (by decide +kernel) ?_
    refine R_goto C d_Short_learning_15 (tgt := 19) (by decide) ?_
    refine R_isub C d_Short_learning_19 ?_
    exact R_iret C rfl d_Short_learning_20
theorem c_Short_learning {q : QT} (hg : GOk sdX q) {this : Nat} {a1 : Int32} {a2 : Int32} {a3 : Int32} {a4 : Int32} {μ : Mm} {ν : Ml} (h_this : this ∈ kd_Short) {o : Int32} (ho : F_Short_learning this a1 a2 a3 a4 = some o) : Ct sdX q y_Short_learning prog_8_method_3_code 5 (some (FieldType.int)) 1 [.ref (q.2.2.1 this), .int a1, .int a2, .int a3, .int a4] μ ν ((φI μ ν) o).1 ((φI μ ν) o).2.1 ((φI μ ν) o).2.2 := Ct_of rfl hg (fun z C => w_Short_learning C h_this) (Nat.le_of_ble_eq_true rfl) ho
def F_BT_line (a1 : Int32) (a2 : Int32) (a3 : Int32) (μ : Mm) : Option (Int32 × Mm) := (F_Seat_has 40 a1 μ).bind fun v1 => (if v1 = 0 then some ((-1), μ) else (F_BT_within a2 0 3).bind fun v3 => (if v3 = 0 then some ((-1), μ) else (F_BT_within a3 0 9).bind fun v5 => (if v5 = 0 then some ((-2), μ) else (rdI (μ 41) 6 a1).bind fun v7 => (if v7 = 6 then (rdI (μ 45) 24 ((a1 * 4) + a2)).bind fun v8 => (wrI μ 45 24 ((a1 * 4) + a2) a3).bind fun μ9 => some (v8, μ9) else some ((-3), μ)))))
theorem d_BT_line_0 : decode prog_1_method_7_code 0 = .ok (.aload_n 0, 1) := by decide +kernel
theorem d_BT_line_4 : decode prog_1_method_7_code 4 = .ok (.iload_n 1, 1) := by decide +kernel
theorem d_BT_line_5 : decode prog_1_method_7_code 5 = .ok (.invokevirtual 92, 3) := by decide +kernel
theorem d_BT_line_20 : decode prog_1_method_7_code 20 = .ok (.iconst (-1), 1) := by decide +kernel
theorem d_BT_line_21 : decode prog_1_method_7_code 21 = .ok (.ireturn, 1) := by decide +kernel
theorem d_BT_line_11 : decode prog_1_method_7_code 11 = .ok (.iload_n 2, 1) := by decide +kernel
theorem d_BT_line_12 : decode prog_1_method_7_code 12 = .ok (.iconst 0, 1) := by decide +kernel
theorem d_BT_line_13 : decode prog_1_method_7_code 13 = .ok (.iconst 3, 1) := by decide +kernel
theorem d_BT_line_14 : decode prog_1_method_7_code 14 = .ok (.invokestatic 76, 3) := by decide +kernel
theorem d_BT_line_22 : decode prog_1_method_7_code 22 = .ok (.iload_n 3, 1) := by decide +kernel
theorem d_BT_line_23 : decode prog_1_method_7_code 23 = .ok (.iconst 0, 1) := by decide +kernel
theorem d_BT_line_24 : decode prog_1_method_7_code 24 = .ok (.bipush 9, 2) := by decide +kernel
theorem d_BT_line_26 : decode prog_1_method_7_code 26 = .ok (.invokestatic 76, 3) := by decide +kernel
theorem d_BT_line_35 : decode prog_1_method_7_code 35 = .ok (.aload_n 0, 1) := by decide +kernel
theorem d_BT_line_42 : decode prog_1_method_7_code 42 = .ok (.iload_n 1, 1) := by decide +kernel
theorem d_BT_line_44 : decode prog_1_method_7_code 44 = .ok (.bipush 6, 2) := by decide +kernel
theorem d_BT_line_52 : decode prog_1_method_7_code 52 = .ok (.iload_n 1, 1) := by decide +kernel
theorem d_BT_line_53 : decode prog_1_method_7_code 53 = .ok (.iconst 4, 1) := by decide +kernel
theorem d_BT_line_54 : decode prog_1_method_7_code 54 = .ok (.imul, 1) := by decide +kernel
theorem d_BT_line_55 : decode prog_1_method_7_code 55 = .ok (.iload_n 2, 1) := by decide +kernel
theorem d_BT_line_56 : decode prog_1_method_7_code 56 = .ok (.iadd, 1) := by decide +kernel
theorem d_BT_line_57 : decode prog_1_method_7_code 57 = .ok (.istore 4, 2) := by decide +kernel
theorem d_BT_line_59 : decode prog_1_method_7_code 59 = .ok (.aload_n 0, 1) := by decide +kernel
theorem d_BT_line_66 : decode prog_1_method_7_code 66 = .ok (.iload 4, 2) := by decide +kernel
theorem d_BT_line_69 : decode prog_1_method_7_code 69 = .ok (.istore 5, 2) := by decide +kernel
theorem d_BT_line_71 : decode prog_1_method_7_code 71 = .ok (.aload_n 0, 1) := by decide +kernel
theorem d_BT_line_78 : decode prog_1_method_7_code 78 = .ok (.iload 4, 2) := by decide +kernel
theorem d_BT_line_80 : decode prog_1_method_7_code 80 = .ok (.iload_n 3, 1) := by decide +kernel
theorem d_BT_line_82 : decode prog_1_method_7_code 82 = .ok (.iload 5, 2) := by decide +kernel
theorem d_BT_line_84 : decode prog_1_method_7_code 84 = .ok (.ireturn, 1) := by decide +kernel
theorem d_BT_line_81 : decode prog_1_method_7_code 81 = .ok (.iastore, 1) := by decide +kernel
theorem d_BT_line_75 : decode prog_1_method_7_code 75 = .ok (.getfield 141, 3) := by decide +kernel
theorem d_BT_line_72 : decode prog_1_method_7_code 72 = .ok (.getfield 52, 3) := by decide +kernel
theorem d_BT_line_63 : decode prog_1_method_7_code 63 = .ok (.getfield 141, 3) := by decide +kernel
theorem d_BT_line_60 : decode prog_1_method_7_code 60 = .ok (.getfield 52, 3) := by decide +kernel
theorem d_BT_line_49 : decode prog_1_method_7_code 49 = .ok (.bipush (-3), 2) := by decide +kernel
theorem d_BT_line_51 : decode prog_1_method_7_code 51 = .ok (.ireturn, 1) := by decide +kernel
theorem d_BT_line_46 : decode prog_1_method_7_code 46 = .ok (.if_icmp .eq 6, 3) := by decide +kernel
theorem d_BT_line_39 : decode prog_1_method_7_code 39 = .ok (.getfield 99, 3) := by decide +kernel
theorem d_BT_line_36 : decode prog_1_method_7_code 36 = .ok (.getfield 52, 3) := by decide +kernel
theorem d_BT_line_32 : decode prog_1_method_7_code 32 = .ok (.bipush (-2), 2) := by decide +kernel
theorem d_BT_line_34 : decode prog_1_method_7_code 34 = .ok (.ireturn, 1) := by decide +kernel
theorem d_BT_line_29 : decode prog_1_method_7_code 29 = .ok (.ifCond .ne 6, 3) := by decide +kernel
theorem d_BT_line_17 : decode prog_1_method_7_code 17 = .ok (.ifCond .ne 5, 3) := by decide +kernel
theorem d_BT_line_8 : decode prog_1_method_7_code 8 = .ok (.ifCond .eq 12, 3) := by decide +kernel
theorem d_BT_line_1 : decode prog_1_method_7_code 1 = .ok (.getfield 52, 3) := by decide +kernel
theorem d_BT_line_43 : decode prog_1_method_7_code 43 = .ok (.iaload, 1) := by decide +kernel
theorem d_BT_line_68 : decode prog_1_method_7_code 68 = .ok (.iaload, 1) := by decide +kernel
set_option maxRecDepth 10000 in
set_option maxHeartbeats 4000000 in
theorem w_BT_line {q : QT} {z : ZT} {a1 : Int32} {a2 : Int32} {a3 : Int32} {μ : Mm} {ν : Ml} (C : Ctx sdX q z prog_1_method_7_code "BesideTom" 6 1 (some (FieldType.int))) : R sdX q z 6 (φIm ν) (F_BT_line a1 a2 a3 μ) μ ν 0 [(0, .ref (q.2.2.1 0)), (1, .int a1), (2, .int a2), (3, .int a3)] [] := by
  unfold F_BT_line
  refine R_aload_n C 0 d_BT_line_0 rfl rfl ?_
  refine gf_BT_now C fl_BT_52 d_BT_line_1 ?_
  refine R_iload_n C 1 d_BT_line_4 rfl rfl ?_
  refine R_bind (fun v1 h2 => ?_)
  refine R_callV C (se_0 s40) (sc_0 s40 q _ _) rfl cf_Seat_has rfl ml_BT_92 im_Seat_has sl_Seat_Seat_has_Seat_has (c_Seat_has (gk C) s40 h2) (by decide) (by decide) rfl rfl (Nat.le_of_ble_eq_true rfl) d_BT_line_5 ?_
  refine R_if_eq C d_BT_line_8 (tgt := 20) (by decide) ?_ ?_
  · skip
    refine R_iconst C d_BT_line_20 (v := (-1)) (by decide +kernel) ?_
    exact R_iret C rfl d_BT_line_21
  · skip
    refine R_iload_n C 2 d_BT_line_11 rfl rfl ?_
    refine R_iconst C d_BT_line_12 (v := 0) (by decide +kernel) ?_
    refine R_iconst C d_BT_line_13 (v := 3) (by decide +kernel) ?_
    refine R_bind (fun v3 h4 => ?_)
    refine R_callS C cf_BT_within ml_BT_76 sm_BT_within (c_BT_within (gk C) h4) (by decide) (by decide) rfl rfl (Nat.le_of_ble_eq_true rfl) d_BT_line_14 ?_
    refine R_if_ne C d_BT_line_17 (tgt := 22) (by decide) ?_ ?_
    · skip
      refine R_iload_n C 3 d_BT_line_22 rfl rfl ?_
      refine R_iconst C d_BT_line_23 (v := 0) (by decide +kernel) ?_
      refine R_bipush C d_BT_line_24 (v := 9) (by decide +kernel) ?_
      refine R_bind (fun v5 h6 => ?_)
      refine R_callS C cf_BT_within ml_BT_76 sm_BT_within (c_BT_within (gk C) h6) (by decide) (by decide) rfl rfl (Nat.le_of_ble_eq_true rfl) d_BT_line_26 ?_
      refine R_if_ne C d_BT_line_29 (tgt := 35) (by decide) ?_ ?_
      · skip
        refine R_aload_n C 0 d_BT_line_35 rfl rfl ?_
        refine gf_BT_now C fl_BT_52 d_BT_line_36 ?_
        refine gf_Seat_kind C s40 fl_BT_99 d_BT_line_39 ?_
        refine R_iload_n C 1 d_BT_line_42 rfl rfl ?_
        refine R_iald C (se_1 s40) (sc_1 s40 q _ _) d_BT_line_43 (fun v7 => ?_)
        refine R_bipush C d_BT_line_44 (v := 6) (by decide +kernel) ?_
        refine R_icmp_eq C d_BT_line_46 (tgt := 52) (by decide) ?_ ?_
        · skip
          refine R_iload_n C 1 d_BT_line_52 rfl rfl ?_
          refine R_iconst C d_BT_line_53 (v := 4) (by decide +kernel) ?_
          refine R_imul C d_BT_line_54 ?_
          refine R_iload_n C 2 d_BT_line_55 rfl rfl ?_
          refine R_iadd C d_BT_line_56 ?_
          refine R_istore C (lv' := [(4, .int ((a1 * 4) + a2)), (0, .ref (q.2.2.1 0)), (1, .int a1), (2, .int a2), (3, .int a3)]) d_BT_line_57 (by decide) rfl ?_
          refine R_aload_n C 1 d_BT_line_59 rfl rfl ?_
          refine gf_BT_now C fl_BT_52 d_BT_line_60 ?_
          refine gf_Seat_lines C s40 fl_BT_141 d_BT_line_63 ?_
          refine R_iload C 0 d_BT_line_66 rfl ?_
          refine R_iald C (se_5 s40) (sc_5 s40 q _ _) d_BT_line_68 (fun v8 => ?_)
          refine R_istore C (lv' := [(5, .int v8), (4, .int ((a1 * 4) + a2)), (0, .ref (q.2.2.1 0)), (1, .int a1), (2, .int a2), (3, .int a3)]) d_BT_line_69 (by decide) rfl ?_
          refine R_aload_n C 2 d_BT_line_71 rfl rfl ?_
          refine gf_BT_now C fl_BT_52 d_BT_line_72 ?_
          refine gf_Seat_lines C s40 fl_BT_141 d_BT_line_75 ?_
          refine R_iload C 1 d_BT_line_78 rfl ?_
          refine R_iload_n C 5 d_BT_line_80 rfl rfl ?_
          refine R_iast C (se_5 s40) (fun h => sc_5 s40 q h _) d_BT_line_81 (fun μ9 => ?_)
          refine R_iload C 0 d_BT_line_82 rfl ?_
          exact R_iret C rfl d_BT_line_84
        · skip
          refine R_bipush C d_BT_line_49 (v := (-3)) (by decide +kernel) ?_
          exact R_iret C rfl d_BT_line_51
      · skip
        refine R_bipush C d_BT_line_32 (v := (-2)) (by decide +kernel) ?_
        exact R_iret C rfl d_BT_line_34
    · skip
      refine R_iconst C d_BT_line_20 (v := (-1)) (by decide +kernel) ?_
      exact R_iret C rfl d_BT_line_21
theorem c_BT_line {q : QT} (hg : GOk sdX q) {a1 : Int32} {a2 : Int32} {a3 : Int32} {μ : Mm} {ν : Ml} {o : Int32 × Mm} (ho : F_BT_line a1 a2 a3 μ = some o) : Ct sdX q y_BT_line prog_1_method_7_code 6 (some (FieldType.int)) 1 [.ref (q.2.2.1 0), .int a1, .int a2, .int a3] μ ν ((φIm ν) o).1 ((φIm ν) o).2.1 ((φIm ν) o).2.2 := Ct_of rfl hg (fun z C => w_BT_line C) (Nat.le_of_ble_eq_true rfl) ho
def F_Rooms_number (μ : Mm) : Option (Int32 × Mm) := (F_Rooms_isDigit μ).bind fun v1 => (if v1 = 0 then (F_Rooms_fails μ).bind fun μ10 => some (0, μ10) else (F_Rooms_steps μ).bind fun μ3 => (F_Rooms_isDigit μ3).bind fun v5 => (if v5 = 0 then some (((μ 1 5) - 48), μ3) else lt_ (((((μ 1 5) - 48) * 10) + (μ3 1 5)) - 48) fun x7 => (F_Rooms_steps μ3).bind fun μ8 => some (x7, μ8)))
theorem d_Rooms_number_0 : decode prog_5_method_14_code 0 = .ok (.aload_n 0, 1) := by decide +kernel
theorem d_Rooms_number_1 : decode prog_5_method_14_code 1 = .ok (.invokevirtual 115, 3) := by decide +kernel
theorem d_Rooms_number_13 : decode prog_5_method_14_code 13 = .ok (.aload_n 0, 1) := by decide +kernel
theorem d_Rooms_number_17 : decode prog_5_method_14_code 17 = .ok (.bipush 48, 2) := by decide +kernel
theorem d_Rooms_number_19 : decode prog_5_method_14_code 19 = .ok (.isub, 1) := by decide +kernel
theorem d_Rooms_number_20 : decode prog_5_method_14_code 20 = .ok (.istore_n 1, 1) := by decide +kernel
theorem d_Rooms_number_21 : decode prog_5_method_14_code 21 = .ok (.aload_n 0, 1) := by decide +kernel
theorem d_Rooms_number_22 : decode prog_5_method_14_code 22 = .ok (.invokevirtual 49, 3) := by decide +kernel
theorem d_Rooms_number_25 : decode prog_5_method_14_code 25 = .ok (.aload_n 0, 1) := by decide +kernel
theorem d_Rooms_number_26 : decode prog_5_method_14_code 26 = .ok (.invokevirtual 115, 3) := by decide +kernel
theorem d_Rooms_number_49 : decode prog_5_method_14_code 49 = .ok (.iload_n 1, 1) := by decide +kernel
theorem d_Rooms_number_50 : decode prog_5_method_14_code 50 = .ok (.ireturn, 1) := by decide +kernel
theorem d_Rooms_number_32 : decode prog_5_method_14_code 32 = .ok (.iload_n 1, 1) := by decide +kernel
theorem d_Rooms_number_33 : decode prog_5_method_14_code 33 = .ok (.bipush 10, 2) := by decide +kernel
theorem d_Rooms_number_35 : decode prog_5_method_14_code 35 = .ok (.imul, 1) := by decide +kernel
theorem d_Rooms_number_36 : decode prog_5_method_14_code 36 = .ok (.aload_n 0, 1) := by decide +kernel
theorem d_Rooms_number_40 : decode prog_5_method_14_code 40 = .ok (.iadd, 1) := by decide +kernel
theorem d_Rooms_number_41 : decode prog_5_method_14_code 41 = .ok (.bipush 48, 2) := by decide +kernel
theorem d_Rooms_number_43 : decode prog_5_method_14_code 43 = .ok (.isub, 1) := by decide +kernel
theorem d_Rooms_number_45 : decode prog_5_method_14_code 45 = .ok (.aload_n 0, 1) := by decide +kernel
theorem d_Rooms_number_46 : decode prog_5_method_14_code 46 = .ok (.invokevirtual 49, 3) := by decide +kernel
theorem d_Rooms_number_44 : decode prog_5_method_14_code 44 = .ok (.istore_n 1, 1) := by decide +kernel
theorem d_Rooms_number_37 : decode prog_5_method_14_code 37 = .ok (.getfield 46, 3) := by decide +kernel
theorem d_Rooms_number_29 : decode prog_5_method_14_code 29 = .ok (.ifCond .eq 20, 3) := by decide +kernel
theorem d_Rooms_number_14 : decode prog_5_method_14_code 14 = .ok (.getfield 46, 3) := by decide +kernel
theorem d_Rooms_number_7 : decode prog_5_method_14_code 7 = .ok (.aload_n 0, 1) := by decide +kernel
theorem d_Rooms_number_8 : decode prog_5_method_14_code 8 = .ok (.invokevirtual 55, 3) := by decide +kernel
theorem d_Rooms_number_11 : decode prog_5_method_14_code 11 = .ok (.iconst 0, 1) := by decide +kernel
theorem d_Rooms_number_12 : decode prog_5_method_14_code 12 = .ok (.ireturn, 1) := by decide +kernel
theorem d_Rooms_number_4 : decode prog_5_method_14_code 4 = .ok (.ifCond .ne 9, 3) := by decide +kernel
set_option maxRecDepth 10000 in
set_option maxHeartbeats 4000000 in
theorem w_Rooms_number {q : QT} {z : ZT} {μ : Mm} {ν : Ml} (C : Ctx sdX q z prog_5_method_14_code "BesideTom$Rooms" 2 1 (some (FieldType.int))) : R sdX q z 2 (φIm ν) (F_Rooms_number μ) μ ν 0 [(0, .ref (q.2.2.1 1))] [] := by
  unfold F_Rooms_number
  refine R_aload_n C 0 d_Rooms_number_0 rfl rfl ?_
  refine R_bind (fun v1 h2 => ?_)
  refine R_callV C xm_1 (xc_1 q _ _) rfl cf_Rooms_isDigit rfl ml_Rooms_115 im_Rooms_isDigit sl_Rooms_Rooms_isDigit_Rooms_isDigit (c_Rooms_isDigit (gk C) h2) (by decide) (by decide) rfl rfl (Nat.le_of_ble_eq_true rfl) d_Rooms_number_1 ?_
  refine R_if_ne C d_Rooms_number_4 (tgt := 13) (by decide) ?_ ?_
  · skip
    refine R_aload_n C 0 d_Rooms_number_13 rfl rfl ?_
    refine gf_Rooms_sign C fl_Rooms_46 d_Rooms_number_14 ?_
    refine R_bipush C d_Rooms_number_17 (v := 48) (by decide +kernel) ?_
    refine R_isub C d_Rooms_number_19 ?_
    refine R_istore_n C (lv' := [(1, .int ((μ 1 5) - 48)), (0, .ref (q.2.2.1 1))]) d_Rooms_number_20 rfl (by decide) rfl ?_
    refine R_aload_n C 1 d_Rooms_number_21 rfl rfl ?_
    refine R_bind (fun μ3 h4 => ?_)
    refine R_callV C xm_1 (xc_1 q _ _) rfl cf_Rooms_steps rfl ml_Rooms_49 im_Rooms_steps sl_Rooms_Rooms_steps_Rooms_steps (c_Rooms_steps (gk C) h4) (by decide) (by decide) rfl rfl (Nat.le_of_ble_eq_true rfl) d_Rooms_number_22 ?_
    refine R_aload_n C 1 d_Rooms_number_25 rfl rfl ?_
    refine R_bind (fun v5 h6 => ?_)
    refine R_callV C xm_1 (xc_1 q _ _) rfl cf_Rooms_isDigit rfl ml_Rooms_115 im_Rooms_isDigit sl_Rooms_Rooms_isDigit_Rooms_isDigit (c_Rooms_isDigit (gk C) h6) (by decide) (by decide) rfl rfl (Nat.le_of_ble_eq_true rfl) d_Rooms_number_26 ?_
    refine R_if_eq C d_Rooms_number_29 (tgt := 49) (by decide) ?_ ?_
    · skip
      refine R_iload_n C 0 d_Rooms_number_49 rfl rfl ?_
      exact R_iret C rfl d_Rooms_number_50
    · skip
      refine R_iload_n C 0 d_Rooms_number_32 rfl rfl ?_
      refine R_bipush C d_Rooms_number_33 (v := 10) (by decide +kernel) ?_
      refine R_imul C d_Rooms_number_35 ?_
      refine R_aload_n C 1 d_Rooms_number_36 rfl rfl ?_
      refine gf_Rooms_sign C fl_Rooms_46 d_Rooms_number_37 ?_
      refine R_iadd C d_Rooms_number_40 ?_
      refine R_bipush C d_Rooms_number_41 (v := 48) (by decide +kernel) ?_
      refine R_isub C d_Rooms_number_43 ?_
      refine R_nm (fun x7 => ?_)
      refine R_istore_n C (lv' := [(1, .int x7), (0, .ref (q.2.2.1 1))]) d_Rooms_number_44 rfl (by decide) rfl ?_
      refine R_aload_n C 1 d_Rooms_number_45 rfl rfl ?_
      refine R_bind (fun μ8 h9 => ?_)
      refine R_callV C xm_1 (xc_1 q _ _) rfl cf_Rooms_steps rfl ml_Rooms_49 im_Rooms_steps sl_Rooms_Rooms_steps_Rooms_steps (c_Rooms_steps (gk C) h9) (by decide) (by decide) rfl rfl (Nat.le_of_ble_eq_true rfl) d_Rooms_number_46 ?_
      refine R_iload_n C 0 d_Rooms_number_49 rfl rfl ?_
      exact R_iret C rfl d_Rooms_number_50
  · skip
    refine R_aload_n C 0 d_Rooms_number_7 rfl rfl ?_
    refine R_bind (fun μ10 h11 => ?_)
    refine R_callV C xm_1 (xc_1 q _ _) rfl cf_Rooms_fails rfl ml_Rooms_55 im_Rooms_fails sl_Rooms_Rooms_fails_Rooms_fails (c_Rooms_fails (gk C) h11) (by decide) (by decide) rfl rfl (Nat.le_of_ble_eq_true rfl) d_Rooms_number_8 ?_
    refine R_iconst C d_Rooms_number_11 (v := 0) (by decide +kernel) ?_
    exact R_iret C rfl d_Rooms_number_12
theorem c_Rooms_number {q : QT} (hg : GOk sdX q) {μ : Mm} {ν : Ml} {o : Int32 × Mm} (ho : F_Rooms_number μ = some o) : Ct sdX q y_Rooms_number prog_5_method_14_code 2 (some (FieldType.int)) 1 [.ref (q.2.2.1 1)] μ ν ((φIm ν) o).1 ((φIm ν) o).2.1 ((φIm ν) o).2.2 := Ct_of rfl hg (fun z C => w_Rooms_number C) (Nat.le_of_ble_eq_true rfl) ho
def L_BT_partOf_22 (f5 : Int32) (f6 : Int32) (f7 : Int32) (k : Int32 → Option (Int64)) : Nat → Int32 → Int32 → Option (Int64)
  | 0, _, _ => none
  | n + 1, s3, s4 => (if f6 < s4 then k s3 else if s4 = 0 then none else jn (α := Int32) (fun K9 => (if (f5 - f5 / s4 * s4) = 0 then if s4 = 0 then none else (if (f6 - f6 / s4 * s4) = 0 then K9 s4 else K9 s3) else K9 s3)) (fun (j8 : Int32) => L_BT_partOf_22 f5 f6 f7 k n j8 (s4 + 1)))
def F_BT_partOf (a0 : Int32) (a1 : Int32) (a2 : Int32) : Option (Int64) := (if a1 ≤ 0 then some (-9223372036854775808) else (F_BT_within a2 0 1).bind fun v1 => (if v1 = 0 then some (-9223372036854775808) else L_BT_partOf_22 a0 a1 a2 (fun (x10 : Int32) => jn (α := Int32) (fun K14 => (if a2 = 0 then K14 a0 else K14 a1)) (fun (j11 : Int32) => (F_BT_cut j11 x10).bind fun v12 => some (Int32.toInt64 v12))) fu 1 2))
theorem d_BT_partOf_0 : decode prog_1_method_30_code 0 = .ok (.iload_n 1, 1) := by decide +kernel
theorem d_BT_partOf_13 : decode prog_1_method_30_code 13 = .ok (.ldc2_w 254, 3) := by decide +kernel
theorem d_BT_partOf_16 : decode prog_1_method_30_code 16 = .ok (.lreturn, 1) := by decide +kernel
theorem d_BT_partOf_4 : decode prog_1_method_30_code 4 = .ok (.iload_n 2, 1) := by decide +kernel
theorem d_BT_partOf_5 : decode prog_1_method_30_code 5 = .ok (.iconst 0, 1) := by decide +kernel
theorem d_BT_partOf_6 : decode prog_1_method_30_code 6 = .ok (.iconst 1, 1) := by decide +kernel
theorem d_BT_partOf_7 : decode prog_1_method_30_code 7 = .ok (.invokestatic 76, 3) := by decide +kernel
theorem d_BT_partOf_17 : decode prog_1_method_30_code 17 = .ok (.iconst 1, 1) := by decide +kernel
theorem d_BT_partOf_18 : decode prog_1_method_30_code 18 = .ok (.istore_n 3, 1) := by decide +kernel
theorem d_BT_partOf_19 : decode prog_1_method_30_code 19 = .ok (.iconst 2, 1) := by decide +kernel
theorem d_BT_partOf_20 : decode prog_1_method_30_code 20 = .ok (.istore 4, 2) := by decide +kernel
theorem d_BT_partOf_22 : decode prog_1_method_30_code 22 = .ok (.iload 4, 2) := by decide +kernel
theorem d_BT_partOf_24 : decode prog_1_method_30_code 24 = .ok (.iload_n 1, 1) := by decide +kernel
theorem d_BT_partOf_28 : decode prog_1_method_30_code 28 = .ok (.iload_n 0, 1) := by decide +kernel
theorem d_BT_partOf_29 : decode prog_1_method_30_code 29 = .ok (.iload 4, 2) := by decide +kernel
theorem d_BT_partOf_35 : decode prog_1_method_30_code 35 = .ok (.iload_n 1, 1) := by decide +kernel
theorem d_BT_partOf_36 : decode prog_1_method_30_code 36 = .ok (.iload 4, 2) := by decide +kernel
theorem d_BT_partOf_42 : decode prog_1_method_30_code 42 = .ok (.iload 4, 2) := by decide +kernel
theorem d_BT_partOf_44 : decode prog_1_method_30_code 44 = .ok (.istore_n 3, 1) := by decide +kernel
theorem d_BT_partOf_39 : decode prog_1_method_30_code 39 = .ok (.ifCond .ne 6, 3) := by decide +kernel
theorem d_BT_partOf_32 : decode prog_1_method_30_code 32 = .ok (.ifCond .ne 13, 3) := by decide +kernel
theorem d_BT_partOf_45 : decode prog_1_method_30_code 45 = .ok (.iinc 4 1, 3) := by decide +kernel
theorem d_BT_partOf_48 : decode prog_1_method_30_code 48 = .ok (.goto (-26), 3) := by decide +kernel
theorem d_BT_partOf_25 : decode prog_1_method_30_code 25 = .ok (.if_icmp .gt 26, 3) := by decide +kernel
theorem d_BT_partOf_31 : decode prog_1_method_30_code 31 = .ok (.irem, 1) := by decide +kernel
theorem d_BT_partOf_38 : decode prog_1_method_30_code 38 = .ok (.irem, 1) := by decide +kernel
set_option maxRecDepth 10000 in
set_option maxHeartbeats 4000000 in
theorem W_BT_partOf_22 {q : QT} {z : ZT} {μ : Mm} {ν : Ml} {f5 : Int32} {f6 : Int32} {f7 : Int32} {k : Int32 → Option (Int64)} (C : Ctx sdX q z prog_1_method_30_code "BesideTom" 5 1 (some (FieldType.long))) (hk : ∀ (e0_ : Int32), R sdX q z 5 (φL μ ν) (k e0_) μ ν 51 [(0, .int f5), (1, .int f6), (2, .int f7), (3, .int e0_)] []) : ∀ (n : Nat) (s3 : Int32) (s4 : Int32), R sdX q z 5 (φL μ ν) (L_BT_partOf_22 f5 f6 f7 k n s3 s4) μ ν 22 [(3, .int s3), (4, .int s4), (0, .int f5), (1, .int f6), (2, .int f7)] [] := by
  intro n
  induction n with
  | zero =>
    intros
    exact R_none
  | succ n ih =>
    intro s3 s4
    rw [L_BT_partOf_22]
    refine R_iload C 1 d_BT_partOf_22 rfl ?_
    refine R_iload_n C 3 d_BT_partOf_24 rfl rfl ?_
    refine R_icmp_gt C d_BT_partOf_25 (tgt := 51) (by decide) ?_ ?_
    · skip
      exact R_sub [2, 3, 4, 0] rfl (hk s3)
    · skip
      refine R_iload_n C 2 d_BT_partOf_28 rfl rfl ?_
      refine R_iload C 1 d_BT_partOf_29 rfl ?_
      refine R_iremG C d_BT_partOf_31 ?_
      refine R_jn (fun K9 => ∀ (j8 : Int32), R sdX q z 5 (φL μ ν) (K9 j8) μ ν 45 [(0, .int f5), (1, .int f6), (2, .int f7), (3, .int j8), (4, .int s4)] []) ?_ (fun K9 hK9 => ?_)
      · intro j8
        refine R_iinc C 4 d_BT_partOf_45 rfl (iinc_v _ (v := 1) (by decide +kernel)) (lv' := [(4, .int (s4 + 1)), (0, .int f5), (1, .int f6), (2, .int f7), (3, .int j8)]) (by decide) rfl ?_
        refine R_goto C d_BT_partOf_48 (tgt := 22) (by decide) ?_
        exact R_sub [4, 0, 1, 2, 3] rfl (ih j8 (s4 + 1))
      · skip
        refine R_if_ne C d_BT_partOf_32 (tgt := 45) (by decide) ?_ ?_
        · skip
          exact R_sub [2, 3, 4, 0, 1] rfl (hK9 s3)
        · skip
          refine R_iload_n C 3 d_BT_partOf_35 rfl rfl ?_
          refine R_iload C 1 d_BT_partOf_36 rfl ?_
          refine R_iremG C d_BT_partOf_38 ?_
          refine R_if_ne C d_BT_partOf_39 (tgt := 45) (by decide) ?_ ?_
          · skip
            exact R_sub [2, 3, 4, 0, 1] rfl (hK9 s3)
          · skip
            refine R_iload C 1 d_BT_partOf_42 rfl ?_
            refine R_istore_n C (lv' := [(3, .int s4), (4, .int s4), (0, .int f5), (1, .int f6), (2, .int f7)]) d_BT_partOf_44 rfl (by decide) rfl ?_
            exact R_sub [2, 3, 4, 0, 1] rfl (hK9 s4)
theorem d_BT_partOf_51 : decode prog_1_method_30_code 51 = .ok (.iload_n 2, 1) := by decide +kernel
theorem d_BT_partOf_59 : decode prog_1_method_30_code 59 = .ok (.iload_n 1, 1) := by decide +kernel
theorem d_BT_partOf_55 : decode prog_1_method_30_code 55 = .ok (.iload_n 0, 1) := by decide +kernel
theorem d_BT_partOf_56 : decode prog_1_method_30_code 56 = .ok (.goto 4, 3) := by decide +kernel
theorem d_BT_partOf_52 : decode prog_1_method_30_code 52 = .ok (.ifCond .ne 7, 3) := by decide +kernel
theorem d_BT_partOf_60 : decode prog_1_method_30_code 60 = .ok (.iload_n 3, 1) := by decide +kernel
theorem d_BT_partOf_61 : decode prog_1_method_30_code 61 = .ok (.invokestatic 260, 3) := by decide +kernel
theorem d_BT_partOf_64 : decode prog_1_method_30_code 64 = .ok (.i2l, 1) := by decide +kernel
theorem d_BT_partOf_65 : decode prog_1_method_30_code 65 = .ok (.lreturn, 1) := by decide +kernel
theorem d_BT_partOf_10 : decode prog_1_method_30_code 10 = .ok (.ifCond .ne 7, 3) := by decide +kernel
theorem d_BT_partOf_1 : decode prog_1_method_30_code 1 = .ok (.ifCond .le 12, 3) := by decide +kernel
set_option maxRecDepth 10000 in
set_option maxHeartbeats 4000000 in
theorem w_BT_partOf {q : QT} {z : ZT} {a0 : Int32} {a1 : Int32} {a2 : Int32} {μ : Mm} {ν : Ml} (C : Ctx sdX q z prog_1_method_30_code "BesideTom" 5 1 (some (FieldType.long))) : R sdX q z 5 (φL μ ν) (F_BT_partOf a0 a1 a2) μ ν 0 [(0, .int a0), (1, .int a1), (2, .int a2)] [] := by
  unfold F_BT_partOf
  refine R_iload_n C 1 d_BT_partOf_0 rfl rfl ?_
  refine R_if_le C d_BT_partOf_1 (tgt := 13) (by decide) ?_ ?_
  · skip
    refine R_ldc2 C k_BT_254 d_BT_partOf_13 ?_
    exact R_lret C rfl d_BT_partOf_16
  · skip
    refine R_iload_n C 2 d_BT_partOf_4 rfl rfl ?_
    refine R_iconst C d_BT_partOf_5 (v := 0) (by decide +kernel) ?_
    refine R_iconst C d_BT_partOf_6 (v := 1) (by decide +kernel) ?_
    refine R_bind (fun v1 h2 => ?_)
    refine R_callS C cf_BT_within ml_BT_76 sm_BT_within (c_BT_within (gk C) h2) (by decide) (by decide) rfl rfl (Nat.le_of_ble_eq_true rfl) d_BT_partOf_7 ?_
    refine R_if_ne C d_BT_partOf_10 (tgt := 17) (by decide) ?_ ?_
    · skip
      refine R_iconst C d_BT_partOf_17 (v := 1) (by decide +kernel) ?_
      refine R_istore_n C (lv' := [(3, .int 1), (0, .int a0), (1, .int a1), (2, .int a2)]) d_BT_partOf_18 rfl (by decide) rfl ?_
      refine R_iconst C d_BT_partOf_19 (v := 2) (by decide +kernel) ?_
      refine R_istore C (lv' := [(4, .int 2), (3, .int 1), (0, .int a0), (1, .int a1), (2, .int a2)]) d_BT_partOf_20 (by decide) rfl ?_
      refine R_sub [1, 0, 2, 3, 4] rfl ?_
      refine W_BT_partOf_22 C ?_ fu _ _
      intro x10
      refine R_iload_n C 2 d_BT_partOf_51 rfl rfl ?_
      refine R_jn (fun K14 => ∀ (j11 : Int32), R sdX q z 5 (φL μ ν) (K14 j11) μ ν 60 [(3, .int x10)] [.int j11]) ?_ (fun K14 hK14 => ?_)
      · intro j11
        refine R_iload_n C 0 d_BT_partOf_60 rfl rfl ?_
        refine R_bind (fun v12 h13 => ?_)
        refine R_callS C cf_BT_cut ml_BT_260 sm_BT_cut (c_BT_cut (gk C) h13) (by decide) (by decide) rfl rfl (Nat.le_of_ble_eq_true rfl) d_BT_partOf_61 ?_
        refine R_i2l C d_BT_partOf_64 ?_
        exact R_lret C rfl d_BT_partOf_65
      · skip
        refine R_if_ne C d_BT_partOf_52 (tgt := 59) (by decide) ?_ ?_
        · skip
          refine R_iload_n C 1 d_BT_partOf_59 rfl rfl ?_
          exact R_sub [3] rfl (hK14 a1)
        · skip
          refine R_iload_n C 0 d_BT_partOf_55 rfl rfl ?_
          refine R_goto C d_BT_partOf_56 (tgt := 60) (by decide) ?_
          exact R_sub [3] rfl (hK14 a0)
    · skip
      refine R_ldc2 C k_BT_254 d_BT_partOf_13 ?_
      exact R_lret C rfl d_BT_partOf_16
theorem c_BT_partOf {q : QT} (hg : GOk sdX q) {a0 : Int32} {a1 : Int32} {a2 : Int32} {μ : Mm} {ν : Ml} {o : Int64} (ho : F_BT_partOf a0 a1 a2 = some o) : Ct sdX q y_BT_partOf prog_1_method_30_code 5 (some (FieldType.long)) 1 [.int a0, .int a1, .int a2] μ ν ((φL μ ν) o).1 ((φL μ ν) o).2.1 ((φL μ ν) o).2.2 := Ct_of rfl hg (fun z C => w_BT_partOf C) (Nat.le_of_ble_eq_true rfl) ho
