def L_BT_on_58 (f10 : Int32) (f11 : Int32) (k : Mm → Option (Int32 × Mm)) : Nat → Int32 → Mm → Option (Int32 × Mm)
  | 0, _, _ => none
  | n + 1, s9, μ12 => (if f10 ≤ s9 then k μ12 else (F_Seat_weekGoes 60 (1000000000) μ12).bind fun μ13 => L_BT_on_58 f10 f11 k n (s9 + 1) μ13)
def F_BT_on (a1 : Int32) (a2 : Int32) (μ : Mm) : Option (Int32 × Mm) := (F_BT_within a2 0 1).bind fun v1 => jn (α := Unit) (fun K21 => (if v1 = 0 then (F_BT_isOfPupil a2 μ).bind fun v3 => (if v3 = 0 then some ((-1), μ) else K21 ()) else K21 ())) (fun (_ : Unit) => (F_BT_within a1 0 60).bind fun v5 => (if v5 = 0 then some ((-2), μ) else (if a2 = 0 then (F_Seat_noise 40 a1 μ).bind fun v19 => some (v19, μ) else (F_Seat_becomes 60 40 μ).bind fun μ7 => L_BT_on_58 a1 a2 (fun (μ15 : Mm) => (if a2 = 1 then (F_Seat_knowsOfAll 60 μ15).bind fun v17 => some (v17, μ15) else (rdI (μ15 64) 6 (a2 - 10)).bind fun v16 => some (v16, μ15))) fu 0 μ7)))
theorem d_BT_on_0 : decode prog_1_method_12_code 0 = .ok (.iload_n 2, 1) := by decide +kernel
theorem d_BT_on_1 : decode prog_1_method_12_code 1 = .ok (.iconst 0, 1) := by decide +kernel
theorem d_BT_on_2 : decode prog_1_method_12_code 2 = .ok (.iconst 1, 1) := by decide +kernel
theorem d_BT_on_3 : decode prog_1_method_12_code 3 = .ok (.invokestatic 76, 3) := by decide +kernel
theorem d_BT_on_9 : decode prog_1_method_12_code 9 = .ok (.aload_n 0, 1) := by decide +kernel
theorem d_BT_on_10 : decode prog_1_method_12_code 10 = .ok (.iload_n 2, 1) := by decide +kernel
theorem d_BT_on_11 : decode prog_1_method_12_code 11 = .ok (.invokevirtual 189, 3) := by decide +kernel
theorem d_BT_on_17 : decode prog_1_method_12_code 17 = .ok (.iconst (-1), 1) := by decide +kernel
theorem d_BT_on_18 : decode prog_1_method_12_code 18 = .ok (.ireturn, 1) := by decide +kernel
theorem d_BT_on_14 : decode prog_1_method_12_code 14 = .ok (.ifCond .ne 5, 3) := by decide +kernel
theorem d_BT_on_6 : decode prog_1_method_12_code 6 = .ok (.ifCond .ne 13, 3) := by decide +kernel
theorem d_BT_on_19 : decode prog_1_method_12_code 19 = .ok (.iload_n 1, 1) := by decide +kernel
theorem d_BT_on_20 : decode prog_1_method_12_code 20 = .ok (.iconst 0, 1) := by decide +kernel
theorem d_BT_on_21 : decode prog_1_method_12_code 21 = .ok (.bipush 60, 2) := by decide +kernel
theorem d_BT_on_23 : decode prog_1_method_12_code 23 = .ok (.invokestatic 76, 3) := by decide +kernel
theorem d_BT_on_32 : decode prog_1_method_12_code 32 = .ok (.iload_n 2, 1) := by decide +kernel
theorem d_BT_on_45 : decode prog_1_method_12_code 45 = .ok (.aload_n 0, 1) := by decide +kernel
theorem d_BT_on_49 : decode prog_1_method_12_code 49 = .ok (.aload_n 0, 1) := by decide +kernel
theorem d_BT_on_53 : decode prog_1_method_12_code 53 = .ok (.invokevirtual 192, 3) := by decide +kernel
theorem d_BT_on_56 : decode prog_1_method_12_code 56 = .ok (.iconst 0, 1) := by decide +kernel
theorem d_BT_on_57 : decode prog_1_method_12_code 57 = .ok (.istore_n 3, 1) := by decide +kernel
theorem d_BT_on_58 : decode prog_1_method_12_code 58 = .ok (.iload_n 3, 1) := by decide +kernel
theorem d_BT_on_59 : decode prog_1_method_12_code 59 = .ok (.iload_n 1, 1) := by decide +kernel
theorem d_BT_on_63 : decode prog_1_method_12_code 63 = .ok (.aload_n 0, 1) := by decide +kernel
theorem d_BT_on_67 : decode prog_1_method_12_code 67 = .ok (.ldc 196, 2) := by decide +kernel
theorem d_BT_on_69 : decode prog_1_method_12_code 69 = .ok (.invokevirtual 185, 3) := by decide +kernel
theorem d_BT_on_72 : decode prog_1_method_12_code 72 = .ok (.iinc 3 1, 3) := by decide +kernel
theorem d_BT_on_75 : decode prog_1_method_12_code 75 = .ok (.goto (-17), 3) := by decide +kernel
theorem d_BT_on_64 : decode prog_1_method_12_code 64 = .ok (.getfield 56, 3) := by decide +kernel
theorem d_BT_on_60 : decode prog_1_method_12_code 60 = .ok (.if_icmp .ge 18, 3) := by decide +kernel
set_option maxRecDepth 10000 in
set_option maxHeartbeats 4000000 in
theorem W_BT_on_58 {q : QT} {z : ZT} {ν : Ml} {f10 : Int32} {f11 : Int32} {k : Mm → Option (Int32 × Mm)} (C : Ctx sdX q z prog_1_method_12_code "BesideTom" 4 7 (some (FieldType.int))) (hk : ∀ (me_ : Mm), R sdX q z 4 (φIm ν) (k me_) me_ ν 78 [(0, .ref (q.2.2.1 0)), (2, .int f11)] []) : ∀ (n : Nat) (s9 : Int32) (μ12 : Mm), R sdX q z 4 (φIm ν) (L_BT_on_58 f10 f11 k n s9 μ12) μ12 ν 58 [(3, .int s9), (0, .ref (q.2.2.1 0)), (1, .int f10), (2, .int f11)] [] := by
  intro n
  induction n with
  | zero =>
    intros
    exact R_none
  | succ n ih =>
    intro s9 μ12
    rw [L_BT_on_58]
    refine R_iload_n C 0 d_BT_on_58 rfl rfl ?_
    refine R_iload_n C 2 d_BT_on_59 rfl rfl ?_
    refine R_icmp_ge C d_BT_on_60 (tgt := 78) (by decide) ?_ ?_
    · skip
      exact R_sub [1, 3] rfl (hk μ12)
    · skip
      refine R_aload_n C 1 d_BT_on_63 rfl rfl ?_
      refine gf_BT_asked C fl_BT_56 d_BT_on_64 ?_
      refine R_ldc C k_BT_196 d_BT_on_67 ?_
      refine R_bind (fun μ13 h14 => ?_)
      refine R_callV C (se_0 s60) (sc_0 s60 q _ _) rfl cf_Seat_weekGoes rfl ml_BT_185 im_Seat_weekGoes sl_Seat_Seat_weekGoes_Seat_weekGoes (c_Seat_weekGoes (gk C) s60 h14) (by decide) (by decide) rfl rfl (Nat.le_of_ble_eq_true rfl) d_BT_on_69 ?_
      refine R_iinc C 0 d_BT_on_72 rfl (iinc_v _ (v := 1) (by decide +kernel)) (lv' := [(3, .int (s9 + 1)), (0, .ref (q.2.2.1 0)), (1, .int f10), (2, .int f11)]) (by decide) rfl ?_
      refine R_goto C d_BT_on_75 (tgt := 58) (by decide) ?_
      exact R_sub [0, 1, 2, 3] rfl (ih (s9 + 1) μ13)
theorem d_BT_on_78 : decode prog_1_method_12_code 78 = .ok (.iload_n 2, 1) := by decide +kernel
theorem d_BT_on_79 : decode prog_1_method_12_code 79 = .ok (.iconst 1, 1) := by decide +kernel
theorem d_BT_on_93 : decode prog_1_method_12_code 93 = .ok (.aload_n 0, 1) := by decide +kernel
theorem d_BT_on_100 : decode prog_1_method_12_code 100 = .ok (.iload_n 2, 1) := by decide +kernel
theorem d_BT_on_101 : decode prog_1_method_12_code 101 = .ok (.bipush 10, 2) := by decide +kernel
theorem d_BT_on_103 : decode prog_1_method_12_code 103 = .ok (.isub, 1) := by decide +kernel
theorem d_BT_on_105 : decode prog_1_method_12_code 105 = .ok (.ireturn, 1) := by decide +kernel
theorem d_BT_on_97 : decode prog_1_method_12_code 97 = .ok (.getfield 108, 3) := by decide +kernel
theorem d_BT_on_94 : decode prog_1_method_12_code 94 = .ok (.getfield 56, 3) := by decide +kernel
theorem d_BT_on_83 : decode prog_1_method_12_code 83 = .ok (.aload_n 0, 1) := by decide +kernel
theorem d_BT_on_87 : decode prog_1_method_12_code 87 = .ok (.invokevirtual 179, 3) := by decide +kernel
theorem d_BT_on_90 : decode prog_1_method_12_code 90 = .ok (.goto 15, 3) := by decide +kernel
theorem d_BT_on_84 : decode prog_1_method_12_code 84 = .ok (.getfield 56, 3) := by decide +kernel
theorem d_BT_on_80 : decode prog_1_method_12_code 80 = .ok (.if_icmp .ne 13, 3) := by decide +kernel
theorem d_BT_on_50 : decode prog_1_method_12_code 50 = .ok (.getfield 52, 3) := by decide +kernel
theorem d_BT_on_46 : decode prog_1_method_12_code 46 = .ok (.getfield 56, 3) := by decide +kernel
theorem d_BT_on_36 : decode prog_1_method_12_code 36 = .ok (.aload_n 0, 1) := by decide +kernel
theorem d_BT_on_40 : decode prog_1_method_12_code 40 = .ok (.iload_n 1, 1) := by decide +kernel
theorem d_BT_on_41 : decode prog_1_method_12_code 41 = .ok (.invokevirtual 124, 3) := by decide +kernel
theorem d_BT_on_44 : decode prog_1_method_12_code 44 = .ok (.ireturn, 1) := by decide +kernel
theorem d_BT_on_37 : decode prog_1_method_12_code 37 = .ok (.getfield 52, 3) := by decide +kernel
theorem d_BT_on_33 : decode prog_1_method_12_code 33 = .ok (.ifCond .ne 12, 3) := by decide +kernel
theorem d_BT_on_29 : decode prog_1_method_12_code 29 = .ok (.bipush (-2), 2) := by decide +kernel
theorem d_BT_on_31 : decode prog_1_method_12_code 31 = .ok (.ireturn, 1) := by decide +kernel
theorem d_BT_on_26 : decode prog_1_method_12_code 26 = .ok (.ifCond .ne 6, 3) := by decide +kernel
theorem d_BT_on_104 : decode prog_1_method_12_code 104 = .ok (.iaload, 1) := by decide +kernel
set_option maxRecDepth 10000 in
set_option maxHeartbeats 4000000 in
theorem w_BT_on {q : QT} {z : ZT} {a1 : Int32} {a2 : Int32} {μ : Mm} {ν : Ml} (C : Ctx sdX q z prog_1_method_12_code "BesideTom" 4 7 (some (FieldType.int))) : R sdX q z 4 (φIm ν) (F_BT_on a1 a2 μ) μ ν 0 [(0, .ref (q.2.2.1 0)), (1, .int a1), (2, .int a2)] [] := by
  unfold F_BT_on
  refine R_iload_n C 2 d_BT_on_0 rfl rfl ?_
  refine R_iconst C d_BT_on_1 (v := 0) (by decide +kernel) ?_
  refine R_iconst C d_BT_on_2 (v := 1) (by decide +kernel) ?_
  refine R_bind (fun v1 h2 => ?_)
  refine R_callS C cf_BT_within ml_BT_76 sm_BT_within (c_BT_within (gk C) h2) (by decide) (by decide) rfl rfl (Nat.le_of_ble_eq_true rfl) d_BT_on_3 ?_
  refine R_jn (fun K21 => R sdX q z 4 (φIm ν) (K21 ()) μ ν 19 [(0, .ref (q.2.2.1 0)), (1, .int a1), (2, .int a2)] []) ?_ (fun K21 hK21 => ?_)
  · skip
    refine R_iload_n C 1 d_BT_on_19 rfl rfl ?_
    refine R_iconst C d_BT_on_20 (v := 0) (by decide +kernel) ?_
    refine R_bipush C d_BT_on_21 (v := 60) (by decide +kernel) ?_
    refine R_bind (fun v5 h6 => ?_)
    refine R_callS C cf_BT_within ml_BT_76 sm_BT_within (c_BT_within (gk C) h6) (by decide) (by decide) rfl rfl (Nat.le_of_ble_eq_true rfl) d_BT_on_23 ?_
    refine R_if_ne C d_BT_on_26 (tgt := 32) (by decide) ?_ ?_
    · skip
      refine R_iload_n C 2 d_BT_on_32 rfl rfl ?_
      refine R_if_ne C d_BT_on_33 (tgt := 45) (by decide) ?_ ?_
      · skip
        refine R_aload_n C 0 d_BT_on_45 rfl rfl ?_
        refine gf_BT_asked C fl_BT_56 d_BT_on_46 ?_
        refine R_aload_n C 0 d_BT_on_49 rfl rfl ?_
        refine gf_BT_now C fl_BT_52 d_BT_on_50 ?_
        refine R_bind (fun μ7 h8 => ?_)
        refine R_callV C (se_0 s60) (sc_0 s60 q _ _) rfl cf_Seat_becomes rfl ml_BT_192 im_Seat_becomes sl_Seat_Seat_becomes_Seat_becomes (c_Seat_becomes (gk C) s60 s40 h8) (by decide) (by decide) rfl rfl (Nat.le_of_ble_eq_true rfl) d_BT_on_53 ?_
        refine R_iconst C d_BT_on_56 (v := 0) (by decide +kernel) ?_
        refine R_istore_n C (lv' := [(3, .int 0), (0, .ref (q.2.2.1 0)), (1, .int a1), (2, .int a2)]) d_BT_on_57 rfl (by decide) rfl ?_
        refine R_sub [0, 1, 2, 3] rfl ?_
        refine W_BT_on_58 C ?_ fu _ _
        intro μ15
        refine R_iload_n C 1 d_BT_on_78 rfl rfl ?_
        refine R_iconst C d_BT_on_79 (v := 1) (by decide +kernel) ?_
        refine R_icmp_ne C d_BT_on_80 (tgt := 93) (by decide) ?_ ?_
        · skip
          refine R_aload_n C 0 d_BT_on_93 rfl rfl ?_
          refine gf_BT_asked C fl_BT_56 d_BT_on_94 ?_
          refine gf_Seat_knows C s60 fl_BT_108 d_BT_on_97 ?_
          refine R_iload_n C 1 d_BT_on_100 rfl rfl ?_
          refine R_bipush C d_BT_on_101 (v := 10) (by decide +kernel) ?_
          refine R_isub C d_BT_on_103 ?_
          refine R_iald C (se_4 s60) (sc_4 s60 q _ _) d_BT_on_104 (fun v16 => ?_)
          exact R_iret C rfl d_BT_on_105
        · skip
          refine R_aload_n C 0 d_BT_on_83 rfl rfl ?_
          refine gf_BT_asked C fl_BT_56 d_BT_on_84 ?_
          refine R_bind (fun v17 h18 => ?_)
          refine R_callV C (se_0 s60) (sc_0 s60 q _ _) rfl cf_Seat_knowsOfAll rfl ml_BT_179 im_Seat_knowsOfAll sl_Seat_Seat_knowsOfAll_Seat_knowsOfAll (c_Seat_knowsOfAll (gk C) s60 h18) (by decide) (by decide) rfl rfl (Nat.le_of_ble_eq_true rfl) d_BT_on_87 ?_
          refine R_goto C d_BT_on_90 (tgt := 105) (by decide) ?_
          exact R_iret C rfl d_BT_on_105
      · skip
        refine R_aload_n C 0 d_BT_on_36 rfl rfl ?_
        refine gf_BT_now C fl_BT_52 d_BT_on_37 ?_
        refine R_iload_n C 1 d_BT_on_40 rfl rfl ?_
        refine R_bind (fun v19 h20 => ?_)
        refine R_callV C (se_0 s40) (sc_0 s40 q _ _) rfl cf_Seat_noise rfl ml_BT_124 im_Seat_noise sl_Seat_Seat_noise_Seat_noise (c_Seat_noise (gk C) s40 h20) (by decide) (by decide) rfl rfl (Nat.le_of_ble_eq_true rfl) d_BT_on_41 ?_
        exact R_iret C rfl d_BT_on_44
    · skip
      refine R_bipush C d_BT_on_29 (v := (-2)) (by decide +kernel) ?_
      exact R_iret C rfl d_BT_on_31
  · skip
    refine R_if_ne C d_BT_on_6 (tgt := 19) (by decide) ?_ ?_
    · skip
      exact R_sub [0, 1, 2] rfl (hK21)
    · skip
      refine R_aload_n C 0 d_BT_on_9 rfl rfl ?_
      refine R_iload_n C 2 d_BT_on_10 rfl rfl ?_
      refine R_bind (fun v3 h4 => ?_)
      refine R_callV C xm_0 (xc_0 q _ _) rfl cf_BT_isOfPupil rfl ml_BT_189 im_BT_isOfPupil sl_BT_BT_isOfPupil_BT_isOfPupil (c_BT_isOfPupil (gk C) h4) (by decide) (by decide) rfl rfl (Nat.le_of_ble_eq_true rfl) d_BT_on_11 ?_
      refine R_if_ne C d_BT_on_14 (tgt := 19) (by decide) ?_ ?_
      · skip
        exact R_sub [0, 1, 2] rfl (hK21)
      · skip
        refine R_iconst C d_BT_on_17 (v := (-1)) (by decide +kernel) ?_
        exact R_iret C rfl d_BT_on_18
theorem c_BT_on {q : QT} (hg : GOk sdX q) {a1 : Int32} {a2 : Int32} {μ : Mm} {ν : Ml} {o : Int32 × Mm} (ho : F_BT_on a1 a2 μ = some o) : Ct sdX q y_BT_on prog_1_method_12_code 4 (some (FieldType.int)) 7 [.ref (q.2.2.1 0), .int a1, .int a2] μ ν ((φIm ν) o).1 ((φIm ν) o).2.1 ((φIm ν) o).2.2 := Ct_of rfl hg (fun z C => w_BT_on C) (Nat.le_of_ble_eq_true rfl) ho
def L_BT_pass_33 (f4 : Int32) (k : Mm → Option (Int32 × Mm)) : Nat → Int32 → Mm → Option (Int32 × Mm)
  | 0, _, _ => none
  | n + 1, s3, μ5 => (if f4 ≤ s3 then k μ5 else (F_Seat_weekGoes 40 9999 μ5).bind fun μ6 => L_BT_pass_33 f4 k n (s3 + 1) μ6)
def F_BT_pass (a1 : Int32) (μ : Mm) : Option (Int32 × Mm) := (F_BT_within a1 0 60).bind fun v1 => (if v1 = 0 then some ((-2), μ) else (if ((μ 40 2) + a1) ≤ 9999 then L_BT_pass_33 a1 (fun (μ8 : Mm) => (F_Seat_noise 40 0 μ8).bind fun v9 => some (v9, μ8)) fu 0 μ else some ((-3), μ)))
theorem d_BT_pass_0 : decode prog_1_method_11_code 0 = .ok (.iload_n 1, 1) := by decide +kernel
theorem d_BT_pass_1 : decode prog_1_method_11_code 1 = .ok (.iconst 0, 1) := by decide +kernel
theorem d_BT_pass_2 : decode prog_1_method_11_code 2 = .ok (.bipush 60, 2) := by decide +kernel
theorem d_BT_pass_4 : decode prog_1_method_11_code 4 = .ok (.invokestatic 76, 3) := by decide +kernel
theorem d_BT_pass_13 : decode prog_1_method_11_code 13 = .ok (.aload_n 0, 1) := by decide +kernel
theorem d_BT_pass_20 : decode prog_1_method_11_code 20 = .ok (.iload_n 1, 1) := by decide +kernel
theorem d_BT_pass_21 : decode prog_1_method_11_code 21 = .ok (.iadd, 1) := by decide +kernel
theorem d_BT_pass_22 : decode prog_1_method_11_code 22 = .ok (.sipush 9999, 3) := by decide +kernel
theorem d_BT_pass_31 : decode prog_1_method_11_code 31 = .ok (.iconst 0, 1) := by decide +kernel
theorem d_BT_pass_32 : decode prog_1_method_11_code 32 = .ok (.istore_n 2, 1) := by decide +kernel
theorem d_BT_pass_33 : decode prog_1_method_11_code 33 = .ok (.iload_n 2, 1) := by decide +kernel
theorem d_BT_pass_34 : decode prog_1_method_11_code 34 = .ok (.iload_n 1, 1) := by decide +kernel
theorem d_BT_pass_38 : decode prog_1_method_11_code 38 = .ok (.aload_n 0, 1) := by decide +kernel
theorem d_BT_pass_42 : decode prog_1_method_11_code 42 = .ok (.sipush 9999, 3) := by decide +kernel
theorem d_BT_pass_45 : decode prog_1_method_11_code 45 = .ok (.invokevirtual 185, 3) := by decide +kernel
theorem d_BT_pass_48 : decode prog_1_method_11_code 48 = .ok (.iinc 2 1, 3) := by decide +kernel
theorem d_BT_pass_51 : decode prog_1_method_11_code 51 = .ok (.goto (-18), 3) := by decide +kernel
theorem d_BT_pass_39 : decode prog_1_method_11_code 39 = .ok (.getfield 52, 3) := by decide +kernel
theorem d_BT_pass_35 : decode prog_1_method_11_code 35 = .ok (.if_icmp .ge 19, 3) := by decide +kernel
set_option maxRecDepth 10000 in
set_option maxHeartbeats 4000000 in
theorem W_BT_pass_33 {q : QT} {z : ZT} {ν : Ml} {f4 : Int32} {k : Mm → Option (Int32 × Mm)} (C : Ctx sdX q z prog_1_method_11_code "BesideTom" 3 7 (some (FieldType.int))) (hk : ∀ (me_ : Mm), R sdX q z 3 (φIm ν) (k me_) me_ ν 54 [(0, .ref (q.2.2.1 0))] []) : ∀ (n : Nat) (s3 : Int32) (μ5 : Mm), R sdX q z 3 (φIm ν) (L_BT_pass_33 f4 k n s3 μ5) μ5 ν 33 [(2, .int s3), (0, .ref (q.2.2.1 0)), (1, .int f4)] [] := by
  intro n
  induction n with
  | zero =>
    intros
    exact R_none
  | succ n ih =>
    intro s3 μ5
    rw [L_BT_pass_33]
    refine R_iload_n C 0 d_BT_pass_33 rfl rfl ?_
    refine R_iload_n C 2 d_BT_pass_34 rfl rfl ?_
    refine R_icmp_ge C d_BT_pass_35 (tgt := 54) (by decide) ?_ ?_
    · skip
      exact R_sub [1] rfl (hk μ5)
    · skip
      refine R_aload_n C 1 d_BT_pass_38 rfl rfl ?_
      refine gf_BT_now C fl_BT_52 d_BT_pass_39 ?_
      refine R_sipush C d_BT_pass_42 (v := 9999) (by decide +kernel) ?_
      refine R_bind (fun μ6 h7 => ?_)
      refine R_callV C (se_0 s40) (sc_0 s40 q _ _) rfl cf_Seat_weekGoes rfl ml_BT_185 im_Seat_weekGoes sl_Seat_Seat_weekGoes_Seat_weekGoes (c_Seat_weekGoes (gk C) s40 h7) (by decide) (by decide) rfl rfl (Nat.le_of_ble_eq_true rfl) d_BT_pass_45 ?_
      refine R_iinc C 0 d_BT_pass_48 rfl (iinc_v _ (v := 1) (by decide +kernel)) (lv' := [(2, .int (s3 + 1)), (0, .ref (q.2.2.1 0)), (1, .int f4)]) (by decide) rfl ?_
      refine R_goto C d_BT_pass_51 (tgt := 33) (by decide) ?_
      exact R_sub [0, 1, 2] rfl (ih (s3 + 1) μ6)
theorem d_BT_pass_54 : decode prog_1_method_11_code 54 = .ok (.aload_n 0, 1) := by decide +kernel
theorem d_BT_pass_58 : decode prog_1_method_11_code 58 = .ok (.iconst 0, 1) := by decide +kernel
theorem d_BT_pass_59 : decode prog_1_method_11_code 59 = .ok (.invokevirtual 124, 3) := by decide +kernel
theorem d_BT_pass_62 : decode prog_1_method_11_code 62 = .ok (.ireturn, 1) := by decide +kernel
theorem d_BT_pass_55 : decode prog_1_method_11_code 55 = .ok (.getfield 52, 3) := by decide +kernel
theorem d_BT_pass_28 : decode prog_1_method_11_code 28 = .ok (.bipush (-3), 2) := by decide +kernel
theorem d_BT_pass_30 : decode prog_1_method_11_code 30 = .ok (.ireturn, 1) := by decide +kernel
theorem d_BT_pass_25 : decode prog_1_method_11_code 25 = .ok (.if_icmp .le 6, 3) := by decide +kernel
theorem d_BT_pass_17 : decode prog_1_method_11_code 17 = .ok (.getfield 173, 3) := by decide +kernel
theorem d_BT_pass_14 : decode prog_1_method_11_code 14 = .ok (.getfield 52, 3) := by decide +kernel
theorem d_BT_pass_10 : decode prog_1_method_11_code 10 = .ok (.bipush (-2), 2) := by decide +kernel
theorem d_BT_pass_12 : decode prog_1_method_11_code 12 = .ok (.ireturn, 1) := by decide +kernel
theorem d_BT_pass_7 : decode prog_1_method_11_code 7 = .ok (.ifCond .ne 6, 3) := by decide +kernel
set_option maxRecDepth 10000 in
set_option maxHeartbeats 4000000 in
theorem w_BT_pass {q : QT} {z : ZT} {a1 : Int32} {μ : Mm} {ν : Ml} (C : Ctx sdX q z prog_1_method_11_code "BesideTom" 3 7 (some (FieldType.int))) : R sdX q z 3 (φIm ν) (F_BT_pass a1 μ) μ ν 0 [(0, .ref (q.2.2.1 0)), (1, .int a1)] [] := by
  unfold F_BT_pass
  refine R_iload_n C 1 d_BT_pass_0 rfl rfl ?_
  refine R_iconst C d_BT_pass_1 (v := 0) (by decide +kernel) ?_
  refine R_bipush C d_BT_pass_2 (v := 60) (by decide +kernel) ?_
  refine R_bind (fun v1 h2 => ?_)
  refine R_callS C cf_BT_within ml_BT_76 sm_BT_within (c_BT_within (gk C) h2) (by decide) (by decide) rfl rfl (Nat.le_of_ble_eq_true rfl) d_BT_pass_4 ?_
  refine R_if_ne C d_BT_pass_7 (tgt := 13) (by decide) ?_ ?_
  · skip
    refine R_aload_n C 0 d_BT_pass_13 rfl rfl ?_
    refine gf_BT_now C fl_BT_52 d_BT_pass_14 ?_
    refine gf_Seat_week C s40 fl_BT_173 d_BT_pass_17 ?_
    refine R_iload_n C 1 d_BT_pass_20 rfl rfl ?_
    refine R_iadd C d_BT_pass_21 ?_
    refine R_sipush C d_BT_pass_22 (v := 9999) (by decide +kernel) ?_
    refine R_icmp_le C d_BT_pass_25 (tgt := 31) (by decide) ?_ ?_
    · skip
      refine R_iconst C d_BT_pass_31 (v := 0) (by decide +kernel) ?_
      refine R_istore_n C (lv' := [(2, .int 0), (0, .ref (q.2.2.1 0)), (1, .int a1)]) d_BT_pass_32 rfl (by decide) rfl ?_
      refine R_sub [0, 1, 2] rfl ?_
      refine W_BT_pass_33 C ?_ fu _ _
      intro μ8
      refine R_aload_n C 0 d_BT_pass_54 rfl rfl ?_
      refine gf_BT_now C fl_BT_52 d_BT_pass_55 ?_
      refine R_iconst C d_BT_pass_58 (v := 0) (by decide +kernel) ?_
      refine R_bind (fun v9 h10 => ?_)
      refine R_callV C (se_0 s40) (sc_0 s40 q _ _) rfl cf_Seat_noise rfl ml_BT_124 im_Seat_noise sl_Seat_Seat_noise_Seat_noise (c_Seat_noise (gk C) s40 h10) (by decide) (by decide) rfl rfl (Nat.le_of_ble_eq_true rfl) d_BT_pass_59 ?_
      exact R_iret C rfl d_BT_pass_62
    · skip
      refine R_bipush C d_BT_pass_28 (v := (-3)) (by decide +kernel) ?_
      exact R_iret C rfl d_BT_pass_30
  · skip
    refine R_bipush C d_BT_pass_10 (v := (-2)) (by decide +kernel) ?_
    exact R_iret C rfl d_BT_pass_12
theorem c_BT_pass {q : QT} (hg : GOk sdX q) {a1 : Int32} {μ : Mm} {ν : Ml} {o : Int32 × Mm} (ho : F_BT_pass a1 μ = some o) : Ct sdX q y_BT_pass prog_1_method_11_code 3 (some (FieldType.int)) 7 [.ref (q.2.2.1 0), .int a1] μ ν ((φIm ν) o).1 ((φIm ν) o).2.1 ((φIm ν) o).2.2 := Ct_of rfl hg (fun z C => w_BT_pass C) (Nat.le_of_ble_eq_true rfl) ho
def F_Cork_tells (this : Nat) (a2 : Int32) (μ : Mm) : Option (Int32 × Mm) := (F_Trace_begins 60 μ).bind fun μ1 => (F_PK_tells this (a2 - (μ1 11 2)) μ1).bind fun p_ => match p_ with | (v3, μ4) => some (v3, μ4)
theorem d_Cork_tells_0 : decode prog_2_method_5_code 0 = .ok (.aload_n 1, 1) := by decide +kernel
theorem d_Cork_tells_1 : decode prog_2_method_5_code 1 = .ok (.bipush 60, 2) := by decide +kernel
theorem d_Cork_tells_3 : decode prog_2_method_5_code 3 = .ok (.invokevirtual 17, 3) := by decide +kernel
theorem d_Cork_tells_6 : decode prog_2_method_5_code 6 = .ok (.aload_n 0, 1) := by decide +kernel
theorem d_Cork_tells_7 : decode prog_2_method_5_code 7 = .ok (.aload_n 1, 1) := by decide +kernel
theorem d_Cork_tells_8 : decode prog_2_method_5_code 8 = .ok (.iload_n 2, 1) := by decide +kernel
theorem d_Cork_tells_9 : decode prog_2_method_5_code 9 = .ok (.aload_n 1, 1) := by decide +kernel
theorem d_Cork_tells_13 : decode prog_2_method_5_code 13 = .ok (.isub, 1) := by decide +kernel
theorem d_Cork_tells_14 : decode prog_2_method_5_code 14 = .ok (.invokespecial 27, 3) := by decide +kernel
theorem d_Cork_tells_17 : decode prog_2_method_5_code 17 = .ok (.ireturn, 1) := by decide +kernel
theorem d_Cork_tells_10 : decode prog_2_method_5_code 10 = .ok (.getfield 23, 3) := by decide +kernel
set_option maxRecDepth 10000 in
set_option maxHeartbeats 4000000 in
theorem w_Cork_tells {q : QT} {z : ZT} {this : Nat} {a2 : Int32} {μ : Mm} {ν : Ml} (C : Ctx sdX q z prog_2_method_5_code "BesideTom$CorkKind" 3 7 (some (FieldType.int))) (h_this : this ∈ kd_Cork) : R sdX q z 3 (φIm ν) (F_Cork_tells this a2 μ) μ ν 0 [(0, .ref (q.2.2.1 this)), (1, .ref (q.2.2.1 11)), (2, .int a2)] [] := by
  unfold F_Cork_tells
  refine R_aload_n C 1 d_Cork_tells_0 rfl rfl ?_
  refine R_bipush C d_Cork_tells_1 (v := 60) (by decide +kernel) ?_
  refine R_bind (fun μ1 h2 => ?_)
  refine R_callV C xm_11 (xc_11 q _ _) rfl cf_Trace_begins rfl ml_Cork_17 im_Trace_begins sl_Trace_Trace_begins_Trace_begins (c_Trace_begins (gk C) h2) (by decide) (by decide) rfl rfl (Nat.le_of_ble_eq_true rfl) d_Cork_tells_3 ?_
  refine R_aload_n C 0 d_Cork_tells_6 rfl rfl ?_
  refine R_aload_n C 1 d_Cork_tells_7 rfl rfl ?_
  refine R_iload_n C 2 d_Cork_tells_8 rfl rfl ?_
  refine R_aload_n C 1 d_Cork_tells_9 rfl rfl ?_
  refine gf_Trace_number C fl_Cork_23 d_Cork_tells_10 ?_
  refine R_isub C d_Cork_tells_13 ?_
  refine R_bind (fun r_ h5 => ?_)
  obtain ⟨v3, μ4⟩ := r_
  obtain ⟨ci_, Cn_, T_, N_, hq1_, hq2_⟩ := kc_0 (kdup (A := kd_Cork) (by decide) h_this) q (μ1 this) (ν this)
  refine R_callSO C (ke_0 (kdup (A := kd_Cork) (by decide) h_this)) hq1_ hq2_ cf_PK_tells (x := ⟨"BesideTom$QuietKind", "tells", "(LBesideTom$Trace;I)I"⟩) (by decide) rfl ml_Cork_27 sa_Quiet_PK_tells su_Cork_Quiet su_Quiet_PK im_PK_tells (c_PK_tells (gk C) (kdup (A := kd_Cork) (by decide) h_this) h5) (by decide) (by decide) rfl rfl (Nat.le_of_ble_eq_true rfl) d_Cork_tells_14 ?_
  exact R_iret C rfl d_Cork_tells_17
theorem c_Cork_tells {q : QT} (hg : GOk sdX q) {this : Nat} {a2 : Int32} {μ : Mm} {ν : Ml} (h_this : this ∈ kd_Cork) {o : Int32 × Mm} (ho : F_Cork_tells this a2 μ = some o) : Ct sdX q y_Cork_tells prog_2_method_5_code 3 (some (FieldType.int)) 7 [.ref (q.2.2.1 this), .ref (q.2.2.1 11), .int a2] μ ν ((φIm ν) o).1 ((φIm ν) o).2.1 ((φIm ν) o).2.2 := Ct_of rfl hg (fun z C => w_Cork_tells C h_this) (Nat.le_of_ble_eq_true rfl) ho
def F_Short_tells (this : Nat) (a2 : Int32) (μ : Mm) : Option (Int32 × Mm) := (F_Trace_begins 40 μ).bind fun μ1 => (F_PK_tells this a2 μ1).bind fun p_ => match p_ with | (v3, μ4) => (V_chats this 1 μ4).bind fun p_ => match p_ with | (v6, μ7) => some ((v3 + v6), μ7)
theorem d_Short_tells_0 : decode prog_8_method_4_code 0 = .ok (.aload_n 1, 1) := by decide +kernel
theorem d_Short_tells_1 : decode prog_8_method_4_code 1 = .ok (.bipush 40, 2) := by decide +kernel
theorem d_Short_tells_3 : decode prog_8_method_4_code 3 = .ok (.invokevirtual 15, 3) := by decide +kernel
theorem d_Short_tells_6 : decode prog_8_method_4_code 6 = .ok (.aload_n 0, 1) := by decide +kernel
theorem d_Short_tells_7 : decode prog_8_method_4_code 7 = .ok (.aload_n 1, 1) := by decide +kernel
theorem d_Short_tells_8 : decode prog_8_method_4_code 8 = .ok (.iload_n 2, 1) := by decide +kernel
theorem d_Short_tells_9 : decode prog_8_method_4_code 9 = .ok (.invokespecial 21, 3) := by decide +kernel
theorem d_Short_tells_12 : decode prog_8_method_4_code 12 = .ok (.aload_n 0, 1) := by decide +kernel
theorem d_Short_tells_13 : decode prog_8_method_4_code 13 = .ok (.aload_n 1, 1) := by decide +kernel
theorem d_Short_tells_14 : decode prog_8_method_4_code 14 = .ok (.iconst 1, 1) := by decide +kernel
theorem d_Short_tells_15 : decode prog_8_method_4_code 15 = .ok (.invokevirtual 25, 3) := by decide +kernel
theorem d_Short_tells_18 : decode prog_8_method_4_code 18 = .ok (.iadd, 1) := by decide +kernel
theorem d_Short_tells_19 : decode prog_8_method_4_code 19 = .ok (.ireturn, 1) := by decide +kernel
set_option maxRecDepth 10000 in
set_option maxHeartbeats 4000000 in
theorem w_Short_tells {q : QT} {z : ZT} {this : Nat} {a2 : Int32} {μ : Mm} {ν : Ml} (C : Ctx sdX q z prog_8_method_4_code "BesideTom$ShortKind" 3 7 (some (FieldType.int))) (h_this : this ∈ kd_Short) : R sdX q z 3 (φIm ν) (F_Short_tells this a2 μ) μ ν 0 [(0, .ref (q.2.2.1 this)), (1, .ref (q.2.2.1 11)), (2, .int a2)] [] := by
  unfold F_Short_tells
  refine R_aload_n C 1 d_Short_tells_0 rfl rfl ?_
  refine R_bipush C d_Short_tells_1 (v := 40) (by decide +kernel) ?_
  refine R_bind (fun μ1 h2 => ?_)
  refine R_callV C xm_11 (xc_11 q _ _) rfl cf_Trace_begins rfl ml_Short_15 im_Trace_begins sl_Trace_Trace_begins_Trace_begins (c_Trace_begins (gk C) h2) (by decide) (by decide) rfl rfl (Nat.le_of_ble_eq_true rfl) d_Short_tells_3 ?_
  refine R_aload_n C 0 d_Short_tells_6 rfl rfl ?_
  refine R_aload_n C 1 d_Short_tells_7 rfl rfl ?_
  refine R_iload_n C 2 d_Short_tells_8 rfl rfl ?_
  refine R_bind (fun r_ h5 => ?_)
  obtain ⟨v3, μ4⟩ := r_
  obtain ⟨ci_, Cn_, T_, N_, hq1_, hq2_⟩ := kc_0 (kdup (A := kd_Short) (by decide) h_this) q (μ1 this) (ν this)
  refine R_callSU C (ke_0 (kdup (A := kd_Short) (by decide) h_this)) hq1_ hq2_ cf_PK_tells (by decide) ml_Short_21 sa_PK_PK_tells su_Short_PK im_PK_tells (c_PK_tells (gk C) (kdup (A := kd_Short) (by decide) h_this) h5) (by decide) (by decide) rfl rfl (Nat.le_of_ble_eq_true rfl) d_Short_tells_9 ?_
  refine R_aload_n C 0 d_Short_tells_12 rfl rfl ?_
  refine R_aload_n C 1 d_Short_tells_13 rfl rfl ?_
  refine R_iconst C d_Short_tells_14 (v := 1) (by decide +kernel) ?_
  refine R_bind (fun r_ h8 => ?_)
  obtain ⟨v6, μ7⟩ := r_
  refine Vchats_Short_c C h_this ml_Short_25 h8 (by decide) (Nat.le_of_ble_eq_true rfl) d_Short_tells_15 ?_
  refine R_iadd C d_Short_tells_18 ?_
  exact R_iret C rfl d_Short_tells_19
theorem c_Short_tells {q : QT} (hg : GOk sdX q) {this : Nat} {a2 : Int32} {μ : Mm} {ν : Ml} (h_this : this ∈ kd_Short) {o : Int32 × Mm} (ho : F_Short_tells this a2 μ = some o) : Ct sdX q y_Short_tells prog_8_method_4_code 3 (some (FieldType.int)) 7 [.ref (q.2.2.1 this), .ref (q.2.2.1 11), .int a2] μ ν ((φIm ν) o).1 ((φIm ν) o).2.1 ((φIm ν) o).2.2 := Ct_of rfl hg (fun z C => w_Short_tells C h_this) (Nat.le_of_ble_eq_true rfl) ho
def L_BT_where_17 (f5 : Int32) (k : Int32 → Mm → Option (Int32 × Mm)) : Nat → Int32 → Int32 → Mm → Option (Int32 × Mm)
  | 0, _, _, _ => none
  | n + 1, s3, s4, μ6 => (if 6 ≤ s4 then k s3 μ6 else (F_Seat_becomes 60 40 μ6).bind fun μ7 => (F_Seat_sits 60 f5 s4 μ7).bind fun μ9 => (F_Seat_isAsHeard 60 μ9).bind fun v11 => jn (α := Int32) (fun K15 => (if v11 = 0 then K15 s3 else lt_ (s3 ||| (1 <<< (s4 &&& 31))) fun x13 => K15 x13)) (fun (j14 : Int32) => L_BT_where_17 f5 k n j14 (s4 + 1) μ9))
def F_BT_where (a1 : Int32) (μ : Mm) : Option (Int32 × Mm) := (F_Seat_has 40 a1 μ).bind fun v1 => (if v1 = 0 then some ((-1), μ) else L_BT_where_17 a1 (fun (x16 : Int32) (μ17 : Mm) => some (x16, μ17)) fu 0 0 μ)
theorem d_BT_where_0 : decode prog_1_method_26_code 0 = .ok (.aload_n 0, 1) := by decide +kernel
theorem d_BT_where_4 : decode prog_1_method_26_code 4 = .ok (.iload_n 1, 1) := by decide +kernel
theorem d_BT_where_5 : decode prog_1_method_26_code 5 = .ok (.invokevirtual 92, 3) := by decide +kernel
theorem d_BT_where_13 : decode prog_1_method_26_code 13 = .ok (.iconst 0, 1) := by decide +kernel
theorem d_BT_where_14 : decode prog_1_method_26_code 14 = .ok (.istore_n 2, 1) := by decide +kernel
theorem d_BT_where_15 : decode prog_1_method_26_code 15 = .ok (.iconst 0, 1) := by decide +kernel
theorem d_BT_where_16 : decode prog_1_method_26_code 16 = .ok (.istore_n 3, 1) := by decide +kernel
theorem d_BT_where_17 : decode prog_1_method_26_code 17 = .ok (.iload_n 3, 1) := by decide +kernel
theorem d_BT_where_18 : decode prog_1_method_26_code 18 = .ok (.bipush 6, 2) := by decide +kernel
theorem d_BT_where_23 : decode prog_1_method_26_code 23 = .ok (.aload_n 0, 1) := by decide +kernel
theorem d_BT_where_27 : decode prog_1_method_26_code 27 = .ok (.aload_n 0, 1) := by decide +kernel
theorem d_BT_where_31 : decode prog_1_method_26_code 31 = .ok (.invokevirtual 192, 3) := by decide +kernel
theorem d_BT_where_34 : decode prog_1_method_26_code 34 = .ok (.aload_n 0, 1) := by decide +kernel
theorem d_BT_where_38 : decode prog_1_method_26_code 38 = .ok (.iload_n 1, 1) := by decide +kernel
theorem d_BT_where_39 : decode prog_1_method_26_code 39 = .ok (.iload_n 3, 1) := by decide +kernel
theorem d_BT_where_40 : decode prog_1_method_26_code 40 = .ok (.invokevirtual 247, 3) := by decide +kernel
theorem d_BT_where_43 : decode prog_1_method_26_code 43 = .ok (.aload_n 0, 1) := by decide +kernel
theorem d_BT_where_47 : decode prog_1_method_26_code 47 = .ok (.invokevirtual 250, 3) := by decide +kernel
theorem d_BT_where_53 : decode prog_1_method_26_code 53 = .ok (.iload_n 2, 1) := by decide +kernel
theorem d_BT_where_54 : decode prog_1_method_26_code 54 = .ok (.iconst 1, 1) := by decide +kernel
theorem d_BT_where_55 : decode prog_1_method_26_code 55 = .ok (.iload_n 3, 1) := by decide +kernel
theorem d_BT_where_56 : decode prog_1_method_26_code 56 = .ok (.ishl, 1) := by decide +kernel
theorem d_BT_where_57 : decode prog_1_method_26_code 57 = .ok (.ior, 1) := by decide +kernel
theorem d_BT_where_58 : decode prog_1_method_26_code 58 = .ok (.istore_n 2, 1) := by decide +kernel
theorem d_BT_where_50 : decode prog_1_method_26_code 50 = .ok (.ifCond .eq 9, 3) := by decide +kernel
theorem d_BT_where_59 : decode prog_1_method_26_code 59 = .ok (.iinc 3 1, 3) := by decide +kernel
theorem d_BT_where_62 : decode prog_1_method_26_code 62 = .ok (.goto (-45), 3) := by decide +kernel
theorem d_BT_where_44 : decode prog_1_method_26_code 44 = .ok (.getfield 56, 3) := by decide +kernel
theorem d_BT_where_35 : decode prog_1_method_26_code 35 = .ok (.getfield 56, 3) := by decide +kernel
theorem d_BT_where_28 : decode prog_1_method_26_code 28 = .ok (.getfield 52, 3) := by decide +kernel
theorem d_BT_where_24 : decode prog_1_method_26_code 24 = .ok (.getfield 56, 3) := by decide +kernel
theorem d_BT_where_20 : decode prog_1_method_26_code 20 = .ok (.if_icmp .ge 45, 3) := by decide +kernel
set_option maxRecDepth 10000 in
set_option maxHeartbeats 4000000 in
theorem W_BT_where_17 {q : QT} {z : ZT} {ν : Ml} {f5 : Int32} {k : Int32 → Mm → Option (Int32 × Mm)} (C : Ctx sdX q z prog_1_method_26_code "BesideTom" 4 7 (some (FieldType.int))) (hk : ∀ (e0_ : Int32) (me_ : Mm), R sdX q z 4 (φIm ν) (k e0_ me_) me_ ν 65 [(2, .int e0_)] []) : ∀ (n : Nat) (s3 : Int32) (s4 : Int32) (μ6 : Mm), R sdX q z 4 (φIm ν) (L_BT_where_17 f5 k n s3 s4 μ6) μ6 ν 17 [(2, .int s3), (3, .int s4), (0, .ref (q.2.2.1 0)), (1, .int f5)] [] := by
  intro n
  induction n with
  | zero =>
    intros
    exact R_none
  | succ n ih =>
    intro s3 s4 μ6
    rw [L_BT_where_17]
    refine R_iload_n C 1 d_BT_where_17 rfl rfl ?_
    refine R_bipush C d_BT_where_18 (v := 6) (by decide +kernel) ?_
    refine R_icmp_ge C d_BT_where_20 (tgt := 65) (by decide) ?_ ?_
    · skip
      exact R_sub [0] rfl (hk s3 μ6)
    · skip
      refine R_aload_n C 2 d_BT_where_23 rfl rfl ?_
      refine gf_BT_asked C fl_BT_56 d_BT_where_24 ?_
      refine R_aload_n C 2 d_BT_where_27 rfl rfl ?_
      refine gf_BT_now C fl_BT_52 d_BT_where_28 ?_
      refine R_bind (fun μ7 h8 => ?_)
      refine R_callV C (se_0 s60) (sc_0 s60 q _ _) rfl cf_Seat_becomes rfl ml_BT_192 im_Seat_becomes sl_Seat_Seat_becomes_Seat_becomes (c_Seat_becomes (gk C) s60 s40 h8) (by decide) (by decide) rfl rfl (Nat.le_of_ble_eq_true rfl) d_BT_where_31 ?_
      refine R_aload_n C 2 d_BT_where_34 rfl rfl ?_
      refine gf_BT_asked C fl_BT_56 d_BT_where_35 ?_
      refine R_iload_n C 3 d_BT_where_38 rfl rfl ?_
      refine R_iload_n C 1 d_BT_where_39 rfl rfl ?_
      refine R_bind (fun μ9 h10 => ?_)
      refine R_callV C (se_0 s60) (sc_0 s60 q _ _) rfl cf_Seat_sits rfl ml_BT_247 im_Seat_sits sl_Seat_Seat_sits_Seat_sits (c_Seat_sits (gk C) s60 h10) (by decide) (by decide) rfl rfl (Nat.le_of_ble_eq_true rfl) d_BT_where_40 ?_
      refine R_aload_n C 2 d_BT_where_43 rfl rfl ?_
      refine gf_BT_asked C fl_BT_56 d_BT_where_44 ?_
      refine R_bind (fun v11 h12 => ?_)
      refine R_callV C (se_0 s60) (sc_0 s60 q _ _) rfl cf_Seat_isAsHeard rfl ml_BT_250 im_Seat_isAsHeard sl_Seat_Seat_isAsHeard_Seat_isAsHeard (c_Seat_isAsHeard (gk C) s60 h12) (by decide) (by decide) rfl rfl (Nat.le_of_ble_eq_true rfl) d_BT_where_47 ?_
      refine R_jn (fun K15 => ∀ (j14 : Int32), R sdX q z 4 (φIm ν) (K15 j14) μ9 ν 59 [(0, .ref (q.2.2.1 0)), (1, .int f5), (2, .int j14), (3, .int s4)] []) ?_ (fun K15 hK15 => ?_)
      · intro j14
        refine R_iinc C 3 d_BT_where_59 rfl (iinc_v _ (v := 1) (by decide +kernel)) (lv' := [(3, .int (s4 + 1)), (0, .ref (q.2.2.1 0)), (1, .int f5), (2, .int j14)]) (by decide) rfl ?_
        refine R_goto C d_BT_where_62 (tgt := 17) (by decide) ?_
        exact R_sub [3, 0, 1, 2] rfl (ih j14 (s4 + 1) μ9)
      · skip
        refine R_if_eq C d_BT_where_50 (tgt := 59) (by decide) ?_ ?_
        · skip
          exact R_sub [2, 3, 0, 1] rfl (hK15 s3)
        · skip
          refine R_iload_n C 0 d_BT_where_53 rfl rfl ?_
          refine R_iconst C d_BT_where_54 (v := 1) (by decide +kernel) ?_
          refine R_iload_n C 1 d_BT_where_55 rfl rfl ?_
          refine R_ishl C d_BT_where_56 ?_
          refine R_ior C d_BT_where_57 ?_
          refine R_nm (fun x13 => ?_)
          refine R_istore_n C (lv' := [(2, .int x13), (3, .int s4), (0, .ref (q.2.2.1 0)), (1, .int f5)]) d_BT_where_58 rfl (by decide) rfl ?_
          exact R_sub [2, 3, 0, 1] rfl (hK15 x13)
theorem d_BT_where_65 : decode prog_1_method_26_code 65 = .ok (.iload_n 2, 1) := by decide +kernel
theorem d_BT_where_66 : decode prog_1_method_26_code 66 = .ok (.ireturn, 1) := by decide +kernel
theorem d_BT_where_11 : decode prog_1_method_26_code 11 = .ok (.iconst (-1), 1) := by decide +kernel
theorem d_BT_where_12 : decode prog_1_method_26_code 12 = .ok (.ireturn, 1) := by decide +kernel
theorem d_BT_where_8 : decode prog_1_method_26_code 8 = .ok (.ifCond .ne 5, 3) := by decide +kernel
theorem d_BT_where_1 : decode prog_1_method_26_code 1 = .ok (.getfield 52, 3) := by decide +kernel
set_option maxRecDepth 10000 in
set_option maxHeartbeats 4000000 in
theorem w_BT_where {q : QT} {z : ZT} {a1 : Int32} {μ : Mm} {ν : Ml} (C : Ctx sdX q z prog_1_method_26_code "BesideTom" 4 7 (some (FieldType.int))) : R sdX q z 4 (φIm ν) (F_BT_where a1 μ) μ ν 0 [(0, .ref (q.2.2.1 0)), (1, .int a1)] [] := by
  unfold F_BT_where
  refine R_aload_n C 0 d_BT_where_0 rfl rfl ?_
  refine gf_BT_now C fl_BT_52 d_BT_where_1 ?_
  refine R_iload_n C 1 d_BT_where_4 rfl rfl ?_
  refine R_bind (fun v1 h2 => ?_)
  refine R_callV C (se_0 s40) (sc_0 s40 q _ _) rfl cf_Seat_has rfl ml_BT_92 im_Seat_has sl_Seat_Seat_has_Seat_has (c_Seat_has (gk C) s40 h2) (by decide) (by decide) rfl rfl (Nat.le_of_ble_eq_true rfl) d_BT_where_5 ?_
  refine R_if_ne C d_BT_where_8 (tgt := 13) (by decide) ?_ ?_
  · skip
    refine R_iconst C d_BT_where_13 (v := 0) (by decide +kernel) ?_
    refine R_istore_n C (lv' := [(2, .int 0), (0, .ref (q.2.2.1 0)), (1, .int a1)]) d_BT_where_14 rfl (by decide) rfl ?_
    refine R_iconst C d_BT_where_15 (v := 0) (by decide +kernel) ?_
    refine R_istore_n C (lv' := [(3, .int 0), (2, .int 0), (0, .ref (q.2.2.1 0)), (1, .int a1)]) d_BT_where_16 rfl (by decide) rfl ?_
    refine R_sub [1, 0, 2, 3] rfl ?_
    refine W_BT_where_17 C ?_ fu _ _ _
    intro x16 μ17
    refine R_iload_n C 0 d_BT_where_65 rfl rfl ?_
    exact R_iret C rfl d_BT_where_66
  · skip
    refine R_iconst C d_BT_where_11 (v := (-1)) (by decide +kernel) ?_
    exact R_iret C rfl d_BT_where_12
theorem c_BT_where {q : QT} (hg : GOk sdX q) {a1 : Int32} {μ : Mm} {ν : Ml} {o : Int32 × Mm} (ho : F_BT_where a1 μ = some o) : Ct sdX q y_BT_where prog_1_method_26_code 4 (some (FieldType.int)) 7 [.ref (q.2.2.1 0), .int a1] μ ν ((φIm ν) o).1 ((φIm ν) o).2.1 ((φIm ν) o).2.2 := Ct_of rfl hg (fun z C => w_BT_where C) (Nat.le_of_ble_eq_true rfl) ho
section VV
variable {β : Type} {q : QT} {z : ZT} {cc : ByteArray} {own : String} {nL rk : Nat} {ret : Option FieldType} {φ : β → Option Value × Mm × Ml} {f : Option β} {μ : Mm} {ν : Ml} {pc : Nat} {lv : List (Nat × Value)} {st : List Value}
def V_tells (b : Nat) (a2 : Int32) (μ : Mm) : Option (Int32 × Mm) := if b = 24 then F_PK_tells b a2 μ else if b = 25 then F_PK_tells b a2 μ else if b = 26 then F_PK_tells b a2 μ else if b = 27 then F_Short_tells b a2 μ else if b = 28 then F_PK_tells b a2 μ else if b = 29 then F_Cork_tells b a2 μ else if b = 30 then F_Short_tells b a2 μ else none
set_option maxRecDepth 10000 in
theorem Vtells_PK_c (C : Ctx sdX q z cc own nL rk ret) {b index : Nat} (h : b ∈ kd_PK) (hm : Cond.methodLink own index y_PK_tells ∈ gW) {a2 : Int32} {r : Int32 × Mm} (hr : V_tells b a2 μ = some r) (hrk : 7 + 1 ≤ rk) (hw : (st.map fun v => v.category).sum ≤ 8) (hd : decode cc pc = .ok (.invokevirtual index, 3)) (k : R sdX q z nL φ f r.2 ν (pc + 3) lv (.int r.1 :: st)) : R sdX q z nL φ f μ ν pc lv (.int a2 :: .ref (q.2.2.1 11) :: .ref (q.2.2.1 b) :: st) := by
  rcases List.mem_cons.mp h with rfl | h
  · have hr2 : F_PK_tells 24 a2 μ = some r := hr
    exact R_callU C xm_24 (xc_24 q _ _) rfl cf_PK_tells (owner := "BesideTom$PupilKind") (x := y_PK_tells) cf_PK_tells cf_PK_tells.2.2.2 hm sa_PK_PK_tells im_PK_tells sl_PK_PK_tells_PK_tells im_PK_tells (c_PK_tells (gk C) (by decide) hr2) (Nat.le_trans (by decide) hrk) (by decide) (As := [.ref (q.2.2.1 11), .int a2]) rfl rfl hw hd k
  rcases List.mem_cons.mp h with rfl | h
  · have hr2 : F_PK_tells 25 a2 μ = some r := hr
    exact R_callU C xm_25 (xc_25 q _ _) rfl cf_PK_tells (owner := "BesideTom$PupilKind") (x := y_PK_tells) cf_PK_tells cf_PK_tells.2.2.2 hm sa_PK_PK_tells im_PK_tells sl_Talk_PK_tells_PK_tells im_PK_tells (c_PK_tells (gk C) (by decide) hr2) (Nat.le_trans (by decide) hrk) (by decide) (As := [.ref (q.2.2.1 11), .int a2]) rfl rfl hw hd k
  rcases List.mem_cons.mp h with rfl | h
  · have hr2 : F_PK_tells 26 a2 μ = some r := hr
    exact R_callU C xm_26 (xc_26 q _ _) rfl cf_PK_tells (owner := "BesideTom$PupilKind") (x := y_PK_tells) cf_PK_tells cf_PK_tells.2.2.2 hm sa_PK_PK_tells im_PK_tells sl_Quiet_PK_tells_PK_tells im_PK_tells (c_PK_tells (gk C) (by decide) hr2) (Nat.le_trans (by decide) hrk) (by decide) (As := [.ref (q.2.2.1 11), .int a2]) rfl rfl hw hd k
  rcases List.mem_cons.mp h with rfl | h
  · have hr2 : F_Short_tells 27 a2 μ = some r := hr
    exact R_callU C xm_27 (xc_27 q _ _) rfl cf_Short_tells (owner := "BesideTom$PupilKind") (x := y_PK_tells) cf_PK_tells cf_PK_tells.2.2.2 hm sa_PK_PK_tells im_PK_tells sl_Short_PK_tells_Short_tells im_Short_tells (c_Short_tells (gk C) (by decide) hr2) (Nat.le_trans (by decide) hrk) (by decide) (As := [.ref (q.2.2.1 11), .int a2]) rfl rfl hw hd k
  rcases List.mem_cons.mp h with rfl | h
  · have hr2 : F_PK_tells 28 a2 μ = some r := hr
    exact R_callU C xm_28 (xc_28 q _ _) rfl cf_PK_tells (owner := "BesideTom$PupilKind") (x := y_PK_tells) cf_PK_tells cf_PK_tells.2.2.2 hm sa_PK_PK_tells im_PK_tells sl_Tom_PK_tells_PK_tells im_PK_tells (c_PK_tells (gk C) (by decide) hr2) (Nat.le_trans (by decide) hrk) (by decide) (As := [.ref (q.2.2.1 11), .int a2]) rfl rfl hw hd k
  rcases List.mem_cons.mp h with rfl | h
  · have hr2 : F_Cork_tells 29 a2 μ = some r := hr
    exact R_callU C xm_29 (xc_29 q _ _) rfl cf_Cork_tells (owner := "BesideTom$PupilKind") (x := y_PK_tells) cf_PK_tells cf_PK_tells.2.2.2 hm sa_PK_PK_tells im_PK_tells sl_Cork_PK_tells_Cork_tells im_Cork_tells (c_Cork_tells (gk C) (by decide) hr2) (Nat.le_trans (by decide) hrk) (by decide) (As := [.ref (q.2.2.1 11), .int a2]) rfl rfl hw hd k
  cases List.mem_singleton.mp h
  have hr2 : F_Short_tells 30 a2 μ = some r := hr
  exact R_callU C xm_30 (xc_30 q _ _) rfl cf_Short_tells (owner := "BesideTom$PupilKind") (x := y_PK_tells) cf_PK_tells cf_PK_tells.2.2.2 hm sa_PK_PK_tells im_PK_tells sl_Told_PK_tells_Short_tells im_Short_tells (c_Short_tells (gk C) (by decide) hr2) (Nat.le_trans (by decide) hrk) (by decide) (As := [.ref (q.2.2.1 11), .int a2]) rfl rfl hw hd k

end VV
def F_BT_act (a1 : Int32) (a2 : Int32) (a3 : Int32) (μ : Mm) : Option (Int32 × Mm) := lt_ (up2 μ 11 1 0) fun μ1 => (F_Seat_has 40 a1 μ1).bind fun v2 => (if v2 = 0 then some (0, μ1) else (F_BT_within a2 0 2).bind fun v4 => (if v4 = 0 then some (0, μ1) else lt_ (up2 μ1 11 2 a1) fun μ6 => (rdI (μ6 42) 6 a1).bind fun v7 => lt_ (up2 μ6 11 3 v7) fun μ8 => (F_Seat_kindOf 40 a1 μ8).bind fun v9 => (if a2 = 0 then (V_whispers v9 a3 μ8).bind fun p_ => match p_ with | (v11, μ12) => some (v11, μ12) else if a2 = 1 then (V_chats v9 a3 μ8).bind fun p_ => match p_ with | (v14, μ15) => some (v14, μ15) else (V_tells v9 a3 μ8).bind fun p_ => match p_ with | (v17, μ18) => some (v17, μ18))))
theorem d_BT_act_0 : decode prog_1_method_38_code 0 = .ok (.aload_n 0, 1) := by decide +kernel
theorem d_BT_act_4 : decode prog_1_method_38_code 4 = .ok (.iconst 0, 1) := by decide +kernel
theorem d_BT_act_8 : decode prog_1_method_38_code 8 = .ok (.aload_n 0, 1) := by decide +kernel
theorem d_BT_act_12 : decode prog_1_method_38_code 12 = .ok (.iload_n 1, 1) := by decide +kernel
theorem d_BT_act_13 : decode prog_1_method_38_code 13 = .ok (.invokevirtual 92, 3) := by decide +kernel
theorem d_BT_act_28 : decode prog_1_method_38_code 28 = .ok (.iconst 0, 1) := by decide +kernel
theorem d_BT_act_29 : decode prog_1_method_38_code 29 = .ok (.ireturn, 1) := by decide +kernel
theorem d_BT_act_19 : decode prog_1_method_38_code 19 = .ok (.iload_n 2, 1) := by decide +kernel
theorem d_BT_act_20 : decode prog_1_method_38_code 20 = .ok (.iconst 0, 1) := by decide +kernel
theorem d_BT_act_21 : decode prog_1_method_38_code 21 = .ok (.iconst 2, 1) := by decide +kernel
theorem d_BT_act_22 : decode prog_1_method_38_code 22 = .ok (.invokestatic 76, 3) := by decide +kernel
theorem d_BT_act_30 : decode prog_1_method_38_code 30 = .ok (.aload_n 0, 1) := by decide +kernel
theorem d_BT_act_34 : decode prog_1_method_38_code 34 = .ok (.iload_n 1, 1) := by decide +kernel
theorem d_BT_act_38 : decode prog_1_method_38_code 38 = .ok (.aload_n 0, 1) := by decide +kernel
theorem d_BT_act_42 : decode prog_1_method_38_code 42 = .ok (.aload_n 0, 1) := by decide +kernel
theorem d_BT_act_49 : decode prog_1_method_38_code 49 = .ok (.iload_n 1, 1) := by decide +kernel
theorem d_BT_act_54 : decode prog_1_method_38_code 54 = .ok (.aload_n 0, 1) := by decide +kernel
theorem d_BT_act_58 : decode prog_1_method_38_code 58 = .ok (.iload_n 1, 1) := by decide +kernel
theorem d_BT_act_59 : decode prog_1_method_38_code 59 = .ok (.invokevirtual 291, 3) := by decide +kernel
theorem d_BT_act_62 : decode prog_1_method_38_code 62 = .ok (.astore 4, 2) := by decide +kernel
theorem d_BT_act_64 : decode prog_1_method_38_code 64 = .ok (.iload_n 2, 1) := by decide +kernel
theorem d_BT_act_65 : decode prog_1_method_38_code 65 = .ok (.lookupswitch 49 #[(0, 27), (1, 38)], 27) := by decide +kernel
theorem d_BT_act_92 : decode prog_1_method_38_code 92 = .ok (.aload 4, 2) := by decide +kernel
theorem d_BT_act_94 : decode prog_1_method_38_code 94 = .ok (.aload_n 0, 1) := by decide +kernel
theorem d_BT_act_98 : decode prog_1_method_38_code 98 = .ok (.iload_n 3, 1) := by decide +kernel
theorem d_BT_act_99 : decode prog_1_method_38_code 99 = .ok (.invokevirtual 295, 3) := by decide +kernel
theorem d_BT_act_102 : decode prog_1_method_38_code 102 = .ok (.ireturn, 1) := by decide +kernel
theorem d_BT_act_95 : decode prog_1_method_38_code 95 = .ok (.getfield 72, 3) := by decide +kernel
theorem d_BT_act_103 : decode prog_1_method_38_code 103 = .ok (.aload 4, 2) := by decide +kernel
theorem d_BT_act_105 : decode prog_1_method_38_code 105 = .ok (.aload_n 0, 1) := by decide +kernel
theorem d_BT_act_109 : decode prog_1_method_38_code 109 = .ok (.iload_n 3, 1) := by decide +kernel
theorem d_BT_act_110 : decode prog_1_method_38_code 110 = .ok (.invokevirtual 299, 3) := by decide +kernel
theorem d_BT_act_113 : decode prog_1_method_38_code 113 = .ok (.ireturn, 1) := by decide +kernel
theorem d_BT_act_106 : decode prog_1_method_38_code 106 = .ok (.getfield 72, 3) := by decide +kernel
theorem d_BT_act_114 : decode prog_1_method_38_code 114 = .ok (.aload 4, 2) := by decide +kernel
theorem d_BT_act_116 : decode prog_1_method_38_code 116 = .ok (.aload_n 0, 1) := by decide +kernel
theorem d_BT_act_120 : decode prog_1_method_38_code 120 = .ok (.iload_n 3, 1) := by decide +kernel
theorem d_BT_act_121 : decode prog_1_method_38_code 121 = .ok (.invokevirtual 302, 3) := by decide +kernel
theorem d_BT_act_124 : decode prog_1_method_38_code 124 = .ok (.ireturn, 1) := by decide +kernel
theorem d_BT_act_117 : decode prog_1_method_38_code 117 = .ok (.getfield 72, 3) := by decide +kernel
theorem d_BT_act_55 : decode prog_1_method_38_code 55 = .ok (.getfield 52, 3) := by decide +kernel
theorem d_BT_act_46 : decode prog_1_method_38_code 46 = .ok (.getfield 102, 3) := by decide +kernel
theorem d_BT_act_43 : decode prog_1_method_38_code 43 = .ok (.getfield 52, 3) := by decide +kernel
theorem d_BT_act_39 : decode prog_1_method_38_code 39 = .ok (.getfield 72, 3) := by decide +kernel
theorem d_BT_act_31 : decode prog_1_method_38_code 31 = .ok (.getfield 72, 3) := by decide +kernel
theorem d_BT_act_25 : decode prog_1_method_38_code 25 = .ok (.ifCond .ne 5, 3) := by decide +kernel
theorem d_BT_act_16 : decode prog_1_method_38_code 16 = .ok (.ifCond .eq 12, 3) := by decide +kernel
theorem d_BT_act_9 : decode prog_1_method_38_code 9 = .ok (.getfield 52, 3) := by decide +kernel
theorem d_BT_act_1 : decode prog_1_method_38_code 1 = .ok (.getfield 72, 3) := by decide +kernel
theorem d_BT_act_5 : decode prog_1_method_38_code 5 = .ok (.putfield 283, 3) := by decide +kernel
theorem d_BT_act_35 : decode prog_1_method_38_code 35 = .ok (.putfield 286, 3) := by decide +kernel
theorem d_BT_act_50 : decode prog_1_method_38_code 50 = .ok (.iaload, 1) := by decide +kernel
theorem d_BT_act_51 : decode prog_1_method_38_code 51 = .ok (.putfield 289, 3) := by decide +kernel
set_option maxRecDepth 10000 in
set_option maxHeartbeats 4000000 in
theorem w_BT_act {q : QT} {z : ZT} {a1 : Int32} {a2 : Int32} {a3 : Int32} {μ : Mm} {ν : Ml} (C : Ctx sdX q z prog_1_method_38_code "BesideTom" 5 8 (some (FieldType.int))) : R sdX q z 5 (φIm ν) (F_BT_act a1 a2 a3 μ) μ ν 0 [(0, .ref (q.2.2.1 0)), (1, .int a1), (2, .int a2), (3, .int a3)] [] := by
  unfold F_BT_act
  refine R_aload_n C 0 d_BT_act_0 rfl rfl ?_
  refine gf_BT_trace C fl_BT_72 d_BT_act_1 ?_
  refine R_iconst C d_BT_act_4 (v := 0) (by decide +kernel) ?_
  refine pf_Trace_ran C fl_BT_283 d_BT_act_5 (fun μ1 => ?_)
  refine R_aload_n C 0 d_BT_act_8 rfl rfl ?_
  refine gf_BT_now C fl_BT_52 d_BT_act_9 ?_
  refine R_iload_n C 1 d_BT_act_12 rfl rfl ?_
  refine R_bind (fun v2 h3 => ?_)
  refine R_callV C (se_0 s40) (sc_0 s40 q _ _) rfl cf_Seat_has rfl ml_BT_92 im_Seat_has sl_Seat_Seat_has_Seat_has (c_Seat_has (gk C) s40 h3) (by decide) (by decide) rfl rfl (Nat.le_of_ble_eq_true rfl) d_BT_act_13 ?_
  refine R_if_eq C d_BT_act_16 (tgt := 28) (by decide) ?_ ?_
  · skip
    refine R_iconst C d_BT_act_28 (v := 0) (by decide +kernel) ?_
    exact R_iret C rfl d_BT_act_29
  · skip
    refine R_iload_n C 2 d_BT_act_19 rfl rfl ?_
    refine R_iconst C d_BT_act_20 (v := 0) (by decide +kernel) ?_
    refine R_iconst C d_BT_act_21 (v := 2) (by decide +kernel) ?_
    refine R_bind (fun v4 h5 => ?_)
    refine R_callS C cf_BT_within ml_BT_76 sm_BT_within (c_BT_within (gk C) h5) (by decide) (by decide) rfl rfl (Nat.le_of_ble_eq_true rfl) d_BT_act_22 ?_
    refine R_if_ne C d_BT_act_25 (tgt := 30) (by decide) ?_ ?_
    · skip
      refine R_aload_n C 0 d_BT_act_30 rfl rfl ?_
      refine gf_BT_trace C fl_BT_72 d_BT_act_31 ?_
      refine R_iload_n C 1 d_BT_act_34 rfl rfl ?_
      refine pf_Trace_number C fl_BT_286 d_BT_act_35 (fun μ6 => ?_)
      refine R_aload_n C 0 d_BT_act_38 rfl rfl ?_
      refine gf_BT_trace C fl_BT_72 d_BT_act_39 ?_
      refine R_aload_n C 0 d_BT_act_42 rfl rfl ?_
      refine gf_BT_now C fl_BT_52 d_BT_act_43 ?_
      refine gf_Seat_v C s40 fl_BT_102 d_BT_act_46 ?_
      refine R_iload_n C 1 d_BT_act_49 rfl rfl ?_
      refine R_iald C (se_2 s40) (sc_2 s40 q _ _) d_BT_act_50 (fun v7 => ?_)
      refine pf_Trace_v C fl_BT_289 d_BT_act_51 (fun μ8 => ?_)
      refine R_aload_n C 0 d_BT_act_54 rfl rfl ?_
      refine gf_BT_now C fl_BT_52 d_BT_act_55 ?_
      refine R_iload_n C 1 d_BT_act_58 rfl rfl ?_
      refine R_bind (fun v9 h10 => ?_)
      refine R_callV C (se_0 s40) (sc_0 s40 q _ _) rfl cf_Seat_kindOf rfl ml_BT_291 im_Seat_kindOf sl_Seat_Seat_kindOf_Seat_kindOf (c_Seat_kindOf (gk C) s40 h10) (by decide) (by decide) rfl rfl (Nat.le_of_ble_eq_true rfl) d_BT_act_59 ?_
      refine R_astore C (lv' := [(4, .ref (q.2.2.1 v9)), (0, .ref (q.2.2.1 0)), (1, .int a1), (2, .int a2), (3, .int a3)]) d_BT_act_62 (by decide) rfl ?_
      refine R_iload_n C 3 d_BT_act_64 rfl rfl ?_
      refine R_ite (fun e20 => ?_) (fun e20 => ?_)
      · rw [e20]
        refine R_lsw C d_BT_act_65 (tgt := 92) (by decide +kernel) (off := 27) (by decide +kernel) (by decide) ?_
        refine R_aload C 0 d_BT_act_92 rfl ?_
        refine R_aload_n C 1 d_BT_act_94 rfl rfl ?_
        refine gf_BT_trace C fl_BT_72 d_BT_act_95 ?_
        refine R_iload_n C 4 d_BT_act_98 rfl rfl ?_
        refine R_bind (fun r_ h13 => ?_)
        obtain ⟨v11, μ12⟩ := r_
        refine Vwhispers_PK_c C (kdh_Seat_kindOf h10) ml_BT_295 h13 (by decide) (Nat.le_of_ble_eq_true rfl) d_BT_act_99 ?_
        exact R_iret C rfl d_BT_act_102
      refine R_ite (fun e21 => ?_) (fun e21 => ?_)
      · rw [e21]
        refine R_lsw C d_BT_act_65 (tgt := 103) (by decide +kernel) (off := 38) (by decide +kernel) (by decide) ?_
        refine R_aload C 0 d_BT_act_103 rfl ?_
        refine R_aload_n C 1 d_BT_act_105 rfl rfl ?_
        refine gf_BT_trace C fl_BT_72 d_BT_act_106 ?_
        refine R_iload_n C 4 d_BT_act_109 rfl rfl ?_
        refine R_bind (fun r_ h16 => ?_)
        obtain ⟨v14, μ15⟩ := r_
        refine Vchats_PK_c C (kdh_Seat_kindOf h10) ml_BT_299 h16 (by decide) (Nat.le_of_ble_eq_true rfl) d_BT_act_110 ?_
        exact R_iret C rfl d_BT_act_113
      refine R_lsw C d_BT_act_65 (tgt := 114) (by decide +kernel) (off := 49) ((lv_osw e20 (a := 0) (by decide +kernel)).trans ((lv_osw e21 (a := 1) (by decide +kernel)).trans rfl)) (by decide) ?_
      refine R_aload C 0 d_BT_act_114 rfl ?_
      refine R_aload_n C 1 d_BT_act_116 rfl rfl ?_
      refine gf_BT_trace C fl_BT_72 d_BT_act_117 ?_
      refine R_iload_n C 4 d_BT_act_120 rfl rfl ?_
      refine R_bind (fun r_ h19 => ?_)
      obtain ⟨v17, μ18⟩ := r_
      refine Vtells_PK_c C (kdh_Seat_kindOf h10) ml_BT_302 h19 (by decide) (Nat.le_of_ble_eq_true rfl) d_BT_act_121 ?_
      exact R_iret C rfl d_BT_act_124
    · skip
      refine R_iconst C d_BT_act_28 (v := 0) (by decide +kernel) ?_
      exact R_iret C rfl d_BT_act_29
theorem c_BT_act {q : QT} (hg : GOk sdX q) {a1 : Int32} {a2 : Int32} {a3 : Int32} {μ : Mm} {ν : Ml} {o : Int32 × Mm} (ho : F_BT_act a1 a2 a3 μ = some o) : Ct sdX q y_BT_act prog_1_method_38_code 5 (some (FieldType.int)) 8 [.ref (q.2.2.1 0), .int a1, .int a2, .int a3] μ ν ((φIm ν) o).1 ((φIm ν) o).2.1 ((φIm ν) o).2.2 := Ct_of rfl hg (fun z C => w_BT_act C) (Nat.le_of_ble_eq_true rfl) ho
def L_BT_few_34 (f8 : Int32) (k : Mm → Option (Int32 × Mm)) : Nat → Int32 → Mm → Option (Int32 × Mm)
  | 0, _, _ => none
  | n + 1, s7, μ9 => (if 3 < s7 then k μ9 else jn (α := Unit) (fun K15 => (if s7 = 2 then (if (μ9 60 1) < 2 then K15 () else (F_Seat_noise 60 0 μ9).bind fun v10 => (if f8 < v10 then K15 () else some (s7, μ9))) else K15 ())) (fun (_ : Unit) => (F_BT_calmsBy 5 60 s7 1 f8 μ9).bind fun p_ => match p_ with | (v12, μ13) => (if v12 = 0 then L_BT_few_34 f8 k n (s7 + 1) μ13 else some (s7, μ13))))
def F_BT_few (a1 : Int32) (μ : Mm) : Option (Int32 × Mm) := (F_BT_within a1 0 999).bind fun v1 => (if v1 = 0 then some ((-2), μ) else (F_Seat_noise 40 0 μ).bind fun v3 => (if a1 < v3 then (F_BT_plansFromNow μ).bind fun μ5 => L_BT_few_34 a1 (fun (μ16 : Mm) => some ((-5), μ16)) fu 1 μ5 else some (0, μ)))
theorem d_BT_few_0 : decode prog_1_method_18_code 0 = .ok (.iload_n 1, 1) := by decide +kernel
theorem d_BT_few_1 : decode prog_1_method_18_code 1 = .ok (.iconst 0, 1) := by decide +kernel
theorem d_BT_few_2 : decode prog_1_method_18_code 2 = .ok (.sipush 999, 3) := by decide +kernel
theorem d_BT_few_5 : decode prog_1_method_18_code 5 = .ok (.invokestatic 76, 3) := by decide +kernel
theorem d_BT_few_14 : decode prog_1_method_18_code 14 = .ok (.aload_n 0, 1) := by decide +kernel
theorem d_BT_few_18 : decode prog_1_method_18_code 18 = .ok (.iconst 0, 1) := by decide +kernel
theorem d_BT_few_19 : decode prog_1_method_18_code 19 = .ok (.invokevirtual 124, 3) := by decide +kernel
theorem d_BT_few_22 : decode prog_1_method_18_code 22 = .ok (.iload_n 1, 1) := by decide +kernel
theorem d_BT_few_28 : decode prog_1_method_18_code 28 = .ok (.aload_n 0, 1) := by decide +kernel
theorem d_BT_few_29 : decode prog_1_method_18_code 29 = .ok (.invokevirtual 197, 3) := by decide +kernel
theorem d_BT_few_32 : decode prog_1_method_18_code 32 = .ok (.iconst 1, 1) := by decide +kernel
theorem d_BT_few_33 : decode prog_1_method_18_code 33 = .ok (.istore_n 2, 1) := by decide +kernel
theorem d_BT_few_34 : decode prog_1_method_18_code 34 = .ok (.iload_n 2, 1) := by decide +kernel
theorem d_BT_few_35 : decode prog_1_method_18_code 35 = .ok (.iconst 3, 1) := by decide +kernel
theorem d_BT_few_39 : decode prog_1_method_18_code 39 = .ok (.iload_n 2, 1) := by decide +kernel
theorem d_BT_few_40 : decode prog_1_method_18_code 40 = .ok (.iconst 2, 1) := by decide +kernel
theorem d_BT_few_44 : decode prog_1_method_18_code 44 = .ok (.aload_n 0, 1) := by decide +kernel
theorem d_BT_few_51 : decode prog_1_method_18_code 51 = .ok (.iconst 2, 1) := by decide +kernel
theorem d_BT_few_55 : decode prog_1_method_18_code 55 = .ok (.aload_n 0, 1) := by decide +kernel
theorem d_BT_few_59 : decode prog_1_method_18_code 59 = .ok (.iconst 0, 1) := by decide +kernel
theorem d_BT_few_60 : decode prog_1_method_18_code 60 = .ok (.invokevirtual 124, 3) := by decide +kernel
theorem d_BT_few_63 : decode prog_1_method_18_code 63 = .ok (.iload_n 1, 1) := by decide +kernel
theorem d_BT_few_67 : decode prog_1_method_18_code 67 = .ok (.iload_n 2, 1) := by decide +kernel
theorem d_BT_few_68 : decode prog_1_method_18_code 68 = .ok (.ireturn, 1) := by decide +kernel
theorem d_BT_few_64 : decode prog_1_method_18_code 64 = .ok (.if_icmp .gt 5, 3) := by decide +kernel
theorem d_BT_few_56 : decode prog_1_method_18_code 56 = .ok (.getfield 56, 3) := by decide +kernel
theorem d_BT_few_52 : decode prog_1_method_18_code 52 = .ok (.if_icmp .lt 17, 3) := by decide +kernel
theorem d_BT_few_48 : decode prog_1_method_18_code 48 = .ok (.getfield 80, 3) := by decide +kernel
theorem d_BT_few_45 : decode prog_1_method_18_code 45 = .ok (.getfield 56, 3) := by decide +kernel
theorem d_BT_few_41 : decode prog_1_method_18_code 41 = .ok (.if_icmp .ne 28, 3) := by decide +kernel
theorem d_BT_few_69 : decode prog_1_method_18_code 69 = .ok (.aload_n 0, 1) := by decide +kernel
theorem d_BT_few_73 : decode prog_1_method_18_code 73 = .ok (.iload_n 2, 1) := by decide +kernel
theorem d_BT_few_74 : decode prog_1_method_18_code 74 = .ok (.iconst 1, 1) := by decide +kernel
theorem d_BT_few_75 : decode prog_1_method_18_code 75 = .ok (.iload_n 1, 1) := by decide +kernel
theorem d_BT_few_76 : decode prog_1_method_18_code 76 = .ok (.invokestatic 211, 3) := by decide +kernel
theorem d_BT_few_84 : decode prog_1_method_18_code 84 = .ok (.iinc 2 1, 3) := by decide +kernel
theorem d_BT_few_87 : decode prog_1_method_18_code 87 = .ok (.goto (-53), 3) := by decide +kernel
theorem d_BT_few_82 : decode prog_1_method_18_code 82 = .ok (.iload_n 2, 1) := by decide +kernel
theorem d_BT_few_83 : decode prog_1_method_18_code 83 = .ok (.ireturn, 1) := by decide +kernel
theorem d_BT_few_79 : decode prog_1_method_18_code 79 = .ok (.ifCond .eq 5, 3) := by decide +kernel
theorem d_BT_few_70 : decode prog_1_method_18_code 70 = .ok (.getfield 56, 3) := by decide +kernel
theorem d_BT_few_36 : decode prog_1_method_18_code 36 = .ok (.if_icmp .gt 54, 3) := by decide +kernel
set_option maxRecDepth 10000 in
set_option maxHeartbeats 4000000 in
theorem W_BT_few_34 {q : QT} {z : ZT} {ν : Ml} {f8 : Int32} {k : Mm → Option (Int32 × Mm)} (C : Ctx sdX q z prog_1_method_18_code "BesideTom" 3 17 (some (FieldType.int))) (hk : ∀ (me_ : Mm), R sdX q z 3 (φIm ν) (k me_) me_ ν 90 [] []) : ∀ (n : Nat) (s7 : Int32) (μ9 : Mm), R sdX q z 3 (φIm ν) (L_BT_few_34 f8 k n s7 μ9) μ9 ν 34 [(2, .int s7), (0, .ref (q.2.2.1 0)), (1, .int f8)] [] := by
  intro n
  induction n with
  | zero =>
    intros
    exact R_none
  | succ n ih =>
    intro s7 μ9
    rw [L_BT_few_34]
    refine R_iload_n C 0 d_BT_few_34 rfl rfl ?_
    refine R_iconst C d_BT_few_35 (v := 3) (by decide +kernel) ?_
    refine R_icmp_gt C d_BT_few_36 (tgt := 90) (by decide) ?_ ?_
    · skip
      exact R_sub [] rfl (hk μ9)
    · skip
      refine R_iload_n C 0 d_BT_few_39 rfl rfl ?_
      refine R_iconst C d_BT_few_40 (v := 2) (by decide +kernel) ?_
      refine R_jn (fun K15 => R sdX q z 3 (φIm ν) (K15 ()) μ9 ν 69 [(0, .ref (q.2.2.1 0)), (1, .int f8), (2, .int s7)] []) ?_ (fun K15 hK15 => ?_)
      · skip
        refine R_aload_n C 0 d_BT_few_69 rfl rfl ?_
        refine gf_BT_asked C fl_BT_56 d_BT_few_70 ?_
        refine R_iload_n C 2 d_BT_few_73 rfl rfl ?_
        refine R_iconst C d_BT_few_74 (v := 1) (by decide +kernel) ?_
        refine R_iload_n C 1 d_BT_few_75 rfl rfl ?_
        refine R_bind (fun r_ h14 => ?_)
        obtain ⟨v12, μ13⟩ := r_
        refine R_callS C cf_BT_calmsBy ml_BT_211 sm_BT_calmsBy (c_BT_calmsBy (d := 5) (gk C) s60 h14) (by omega) (by decide) rfl rfl (Nat.le_of_ble_eq_true rfl) d_BT_few_76 ?_
        refine R_if_eq C d_BT_few_79 (tgt := 84) (by decide) ?_ ?_
        · skip
          refine R_iinc C 2 d_BT_few_84 rfl (iinc_v _ (v := 1) (by decide +kernel)) (lv' := [(2, .int (s7 + 1)), (0, .ref (q.2.2.1 0)), (1, .int f8)]) (by decide) rfl ?_
          refine R_goto C d_BT_few_87 (tgt := 34) (by decide) ?_
          exact R_sub [0, 1, 2] rfl (ih (s7 + 1) μ13)
        · skip
          refine R_iload_n C 2 d_BT_few_82 rfl rfl ?_
          exact R_iret C rfl d_BT_few_83
      · skip
        refine R_icmp_ne C d_BT_few_41 (tgt := 69) (by decide) ?_ ?_
        · skip
          exact R_sub [1, 2, 0] rfl (hK15)
        · skip
          refine R_aload_n C 1 d_BT_few_44 rfl rfl ?_
          refine gf_BT_asked C fl_BT_56 d_BT_few_45 ?_
          refine gf_Seat_many C s60 fl_BT_80 d_BT_few_48 ?_
          refine R_iconst C d_BT_few_51 (v := 2) (by decide +kernel) ?_
          refine R_icmp_lt C d_BT_few_52 (tgt := 69) (by decide) ?_ ?_
          · skip
            exact R_sub [1, 2, 0] rfl (hK15)
          · skip
            refine R_aload_n C 1 d_BT_few_55 rfl rfl ?_
            refine gf_BT_asked C fl_BT_56 d_BT_few_56 ?_
            refine R_iconst C d_BT_few_59 (v := 0) (by decide +kernel) ?_
            refine R_bind (fun v10 h11 => ?_)
            refine R_callV C (se_0 s60) (sc_0 s60 q _ _) rfl cf_Seat_noise rfl ml_BT_124 im_Seat_noise sl_Seat_Seat_noise_Seat_noise (c_Seat_noise (gk C) s60 h11) (by decide) (by decide) rfl rfl (Nat.le_of_ble_eq_true rfl) d_BT_few_60 ?_
            refine R_iload_n C 2 d_BT_few_63 rfl rfl ?_
            refine R_icmp_gt C d_BT_few_64 (tgt := 69) (by decide) ?_ ?_
            · skip
              exact R_sub [1, 2, 0] rfl (hK15)
            · skip
              refine R_iload_n C 0 d_BT_few_67 rfl rfl ?_
              exact R_iret C rfl d_BT_few_68
theorem d_BT_few_90 : decode prog_1_method_18_code 90 = .ok (.bipush (-5), 2) := by decide +kernel
theorem d_BT_few_92 : decode prog_1_method_18_code 92 = .ok (.ireturn, 1) := by decide +kernel
theorem d_BT_few_26 : decode prog_1_method_18_code 26 = .ok (.iconst 0, 1) := by decide +kernel
theorem d_BT_few_27 : decode prog_1_method_18_code 27 = .ok (.ireturn, 1) := by decide +kernel
theorem d_BT_few_23 : decode prog_1_method_18_code 23 = .ok (.if_icmp .gt 5, 3) := by decide +kernel
theorem d_BT_few_15 : decode prog_1_method_18_code 15 = .ok (.getfield 52, 3) := by decide +kernel
theorem d_BT_few_11 : decode prog_1_method_18_code 11 = .ok (.bipush (-2), 2) := by decide +kernel
theorem d_BT_few_13 : decode prog_1_method_18_code 13 = .ok (.ireturn, 1) := by decide +kernel
theorem d_BT_few_8 : decode prog_1_method_18_code 8 = .ok (.ifCond .ne 6, 3) := by decide +kernel
set_option maxRecDepth 10000 in
set_option maxHeartbeats 4000000 in
theorem w_BT_few {q : QT} {z : ZT} {a1 : Int32} {μ : Mm} {ν : Ml} (C : Ctx sdX q z prog_1_method_18_code "BesideTom" 3 17 (some (FieldType.int))) : R sdX q z 3 (φIm ν) (F_BT_few a1 μ) μ ν 0 [(0, .ref (q.2.2.1 0)), (1, .int a1)] [] := by
  unfold F_BT_few
  refine R_iload_n C 1 d_BT_few_0 rfl rfl ?_
  refine R_iconst C d_BT_few_1 (v := 0) (by decide +kernel) ?_
  refine R_sipush C d_BT_few_2 (v := 999) (by decide +kernel) ?_
  refine R_bind (fun v1 h2 => ?_)
  refine R_callS C cf_BT_within ml_BT_76 sm_BT_within (c_BT_within (gk C) h2) (by decide) (by decide) rfl rfl (Nat.le_of_ble_eq_true rfl) d_BT_few_5 ?_
  refine R_if_ne C d_BT_few_8 (tgt := 14) (by decide) ?_ ?_
  · skip
    refine R_aload_n C 0 d_BT_few_14 rfl rfl ?_
    refine gf_BT_now C fl_BT_52 d_BT_few_15 ?_
    refine R_iconst C d_BT_few_18 (v := 0) (by decide +kernel) ?_
    refine R_bind (fun v3 h4 => ?_)
    refine R_callV C (se_0 s40) (sc_0 s40 q _ _) rfl cf_Seat_noise rfl ml_BT_124 im_Seat_noise sl_Seat_Seat_noise_Seat_noise (c_Seat_noise (gk C) s40 h4) (by decide) (by decide) rfl rfl (Nat.le_of_ble_eq_true rfl) d_BT_few_19 ?_
    refine R_iload_n C 1 d_BT_few_22 rfl rfl ?_
    refine R_icmp_gt C d_BT_few_23 (tgt := 28) (by decide) ?_ ?_
    · skip
      refine R_aload_n C 0 d_BT_few_28 rfl rfl ?_
      refine R_bind (fun μ5 h6 => ?_)
      refine R_callV C xm_0 (xc_0 q _ _) rfl cf_BT_plansFromNow rfl ml_BT_197 im_BT_plansFromNow sl_BT_BT_plansFromNow_BT_plansFromNow (c_BT_plansFromNow (gk C) h6) (by decide) (by decide) rfl rfl (Nat.le_of_ble_eq_true rfl) d_BT_few_29 ?_
      refine R_iconst C d_BT_few_32 (v := 1) (by decide +kernel) ?_
      refine R_istore_n C (lv' := [(2, .int 1), (0, .ref (q.2.2.1 0)), (1, .int a1)]) d_BT_few_33 rfl (by decide) rfl ?_
      refine R_sub [0, 1, 2] rfl ?_
      refine W_BT_few_34 C ?_ fu _ _
      intro μ16
      refine R_bipush C d_BT_few_90 (v := (-5)) (by decide +kernel) ?_
      exact R_iret C rfl d_BT_few_92
    · skip
      refine R_iconst C d_BT_few_26 (v := 0) (by decide +kernel) ?_
      exact R_iret C rfl d_BT_few_27
  · skip
    refine R_bipush C d_BT_few_11 (v := (-2)) (by decide +kernel) ?_
    exact R_iret C rfl d_BT_few_13
theorem c_BT_few {q : QT} (hg : GOk sdX q) {a1 : Int32} {μ : Mm} {ν : Ml} {o : Int32 × Mm} (ho : F_BT_few a1 μ = some o) : Ct sdX q y_BT_few prog_1_method_18_code 3 (some (FieldType.int)) 17 [.ref (q.2.2.1 0), .int a1] μ ν ((φIm ν) o).1 ((φIm ν) o).2.1 ((φIm ν) o).2.2 := Ct_of rfl hg (fun z C => w_BT_few C) (Nat.le_of_ble_eq_true rfl) ho
def F_Rooms_clause (μ : Mm) : Option (Mm) := (F_Rooms_word μ).bind fun p_ => match p_ with | (v1, μ2) => (F_Rooms_expects 32 μ2).bind fun μ4 => (F_Rooms_number μ4).bind fun p_ => match p_ with | (v6, μ7) => (if v1 = 4 then lt_ (if 1 < v6 then v6 else 1) fun x19 => lt_ (up2 μ7 1 12 x19) fun μ20 => some μ20 else (if v1 = 8 then lt_ (if 1 < v6 then v6 else 1) fun x17 => lt_ (up2 μ7 1 13 x17) fun μ18 => some μ18 else (F_Rooms_expects 32 μ7).bind fun μ9 => (F_Rooms_either 8 0 μ9).bind fun p_ => match p_ with | (v11, μ12) => (if v11 = 0 then some μ12 else jn (α := Int32) (fun K16 => (if v1 = 1 then K16 v6 else K16 (-v6))) (fun (j14 : Int32) => lt_ (up2 μ12 1 11 ((μ12 1 11) + j14)) fun μ15 => some μ15))))
theorem d_Rooms_clause_0 : decode prog_5_method_12_code 0 = .ok (.aload_n 0, 1) := by decide +kernel
theorem d_Rooms_clause_1 : decode prog_5_method_12_code 1 = .ok (.invokevirtual 92, 3) := by decide +kernel
theorem d_Rooms_clause_4 : decode prog_5_method_12_code 4 = .ok (.istore_n 1, 1) := by decide +kernel
theorem d_Rooms_clause_5 : decode prog_5_method_12_code 5 = .ok (.aload_n 0, 1) := by decide +kernel
theorem d_Rooms_clause_6 : decode prog_5_method_12_code 6 = .ok (.bipush 32, 2) := by decide +kernel
theorem d_Rooms_clause_8 : decode prog_5_method_12_code 8 = .ok (.invokevirtual 96, 3) := by decide +kernel
theorem d_Rooms_clause_11 : decode prog_5_method_12_code 11 = .ok (.aload_n 0, 1) := by decide +kernel
theorem d_Rooms_clause_12 : decode prog_5_method_12_code 12 = .ok (.invokevirtual 100, 3) := by decide +kernel
theorem d_Rooms_clause_15 : decode prog_5_method_12_code 15 = .ok (.istore_n 2, 1) := by decide +kernel
theorem d_Rooms_clause_16 : decode prog_5_method_12_code 16 = .ok (.iload_n 1, 1) := by decide +kernel
theorem d_Rooms_clause_17 : decode prog_5_method_12_code 17 = .ok (.iconst 4, 1) := by decide +kernel
theorem d_Rooms_clause_33 : decode prog_5_method_12_code 33 = .ok (.iload_n 1, 1) := by decide +kernel
theorem d_Rooms_clause_34 : decode prog_5_method_12_code 34 = .ok (.bipush 8, 2) := by decide +kernel
theorem d_Rooms_clause_51 : decode prog_5_method_12_code 51 = .ok (.aload_n 0, 1) := by decide +kernel
theorem d_Rooms_clause_52 : decode prog_5_method_12_code 52 = .ok (.bipush 32, 2) := by decide +kernel
theorem d_Rooms_clause_54 : decode prog_5_method_12_code 54 = .ok (.invokevirtual 96, 3) := by decide +kernel
theorem d_Rooms_clause_57 : decode prog_5_method_12_code 57 = .ok (.aload_n 0, 1) := by decide +kernel
theorem d_Rooms_clause_58 : decode prog_5_method_12_code 58 = .ok (.iconst 0, 1) := by decide +kernel
theorem d_Rooms_clause_59 : decode prog_5_method_12_code 59 = .ok (.invokevirtual 103, 3) := by decide +kernel
theorem d_Rooms_clause_85 : decode prog_5_method_12_code 85 = .ok (.return_, 1) := by decide +kernel
theorem d_Rooms_clause_65 : decode prog_5_method_12_code 65 = .ok (.aload_n 0, 1) := by decide +kernel
theorem d_Rooms_clause_66 : decode prog_5_method_12_code 66 = .ok (.dup, 1) := by decide +kernel
theorem d_Rooms_clause_70 : decode prog_5_method_12_code 70 = .ok (.iload_n 1, 1) := by decide +kernel
theorem d_Rooms_clause_71 : decode prog_5_method_12_code 71 = .ok (.iconst 1, 1) := by decide +kernel
theorem d_Rooms_clause_79 : decode prog_5_method_12_code 79 = .ok (.iload_n 2, 1) := by decide +kernel
theorem d_Rooms_clause_80 : decode prog_5_method_12_code 80 = .ok (.ineg, 1) := by decide +kernel
theorem d_Rooms_clause_75 : decode prog_5_method_12_code 75 = .ok (.iload_n 2, 1) := by decide +kernel
theorem d_Rooms_clause_76 : decode prog_5_method_12_code 76 = .ok (.goto 5, 3) := by decide +kernel
theorem d_Rooms_clause_72 : decode prog_5_method_12_code 72 = .ok (.if_icmp .ne 7, 3) := by decide +kernel
theorem d_Rooms_clause_81 : decode prog_5_method_12_code 81 = .ok (.iadd, 1) := by decide +kernel
theorem d_Rooms_clause_67 : decode prog_5_method_12_code 67 = .ok (.getfield 36, 3) := by decide +kernel
theorem d_Rooms_clause_62 : decode prog_5_method_12_code 62 = .ok (.ifCond .eq 23, 3) := by decide +kernel
theorem d_Rooms_clause_39 : decode prog_5_method_12_code 39 = .ok (.aload_n 0, 1) := by decide +kernel
theorem d_Rooms_clause_40 : decode prog_5_method_12_code 40 = .ok (.iconst 1, 1) := by decide +kernel
theorem d_Rooms_clause_41 : decode prog_5_method_12_code 41 = .ok (.iload_n 2, 1) := by decide +kernel
theorem d_Rooms_clause_42 : decode prog_5_method_12_code 42 = .ok (.invokestatic 58, 3) := by decide +kernel
theorem d_Rooms_clause_48 : decode prog_5_method_12_code 48 = .ok (.goto 37, 3) := by decide +kernel
theorem d_Rooms_clause_36 : decode prog_5_method_12_code 36 = .ok (.if_icmp .ne 15, 3) := by decide +kernel
theorem d_Rooms_clause_21 : decode prog_5_method_12_code 21 = .ok (.aload_n 0, 1) := by decide +kernel
theorem d_Rooms_clause_22 : decode prog_5_method_12_code 22 = .ok (.iconst 1, 1) := by decide +kernel
theorem d_Rooms_clause_23 : decode prog_5_method_12_code 23 = .ok (.iload_n 2, 1) := by decide +kernel
theorem d_Rooms_clause_24 : decode prog_5_method_12_code 24 = .ok (.invokestatic 58, 3) := by decide +kernel
theorem d_Rooms_clause_30 : decode prog_5_method_12_code 30 = .ok (.goto 55, 3) := by decide +kernel
theorem d_Rooms_clause_18 : decode prog_5_method_12_code 18 = .ok (.if_icmp .ne 15, 3) := by decide +kernel
theorem d_Rooms_clause_82 : decode prog_5_method_12_code 82 = .ok (.putfield 36, 3) := by decide +kernel
theorem d_Rooms_clause_45 : decode prog_5_method_12_code 45 = .ok (.putfield 89, 3) := by decide +kernel
theorem d_Rooms_clause_27 : decode prog_5_method_12_code 27 = .ok (.putfield 86, 3) := by decide +kernel
set_option maxRecDepth 10000 in
set_option maxHeartbeats 4000000 in
theorem w_Rooms_clause {q : QT} {z : ZT} {μ : Mm} {ν : Ml} (C : Ctx sdX q z prog_5_method_12_code "BesideTom$Rooms" 3 20 none) : R sdX q z 3 (φVm ν) (F_Rooms_clause μ) μ ν 0 [(0, .ref (q.2.2.1 1))] [] := by
  unfold F_Rooms_clause
  refine R_aload_n C 0 d_Rooms_clause_0 rfl rfl ?_
  refine R_bind (fun r_ h3 => ?_)
  obtain ⟨v1, μ2⟩ := r_
  refine R_callV C xm_1 (xc_1 q _ _) rfl cf_Rooms_word rfl ml_Rooms_92 im_Rooms_word sl_Rooms_Rooms_word_Rooms_word (c_Rooms_word (gk C) h3) (by decide) (by decide) rfl rfl (Nat.le_of_ble_eq_true rfl) d_Rooms_clause_1 ?_
  refine R_istore_n C (lv' := [(1, .int v1), (0, .ref (q.2.2.1 1))]) d_Rooms_clause_4 rfl (by decide) rfl ?_
  refine R_aload_n C 1 d_Rooms_clause_5 rfl rfl ?_
  refine R_bipush C d_Rooms_clause_6 (v := 32) (by decide +kernel) ?_
  refine R_bind (fun μ4 h5 => ?_)
  refine R_callV C xm_1 (xc_1 q _ _) rfl cf_Rooms_expects rfl ml_Rooms_96 im_Rooms_expects sl_Rooms_Rooms_expects_Rooms_expects (c_Rooms_expects (gk C) h5) (by decide) (by decide) rfl rfl (Nat.le_of_ble_eq_true rfl) d_Rooms_clause_8 ?_
  refine R_aload_n C 1 d_Rooms_clause_11 rfl rfl ?_
  refine R_bind (fun r_ h8 => ?_)
  obtain ⟨v6, μ7⟩ := r_
  refine R_callV C xm_1 (xc_1 q _ _) rfl cf_Rooms_number rfl ml_Rooms_100 im_Rooms_number sl_Rooms_Rooms_number_Rooms_number (c_Rooms_number (gk C) h8) (by decide) (by decide) rfl rfl (Nat.le_of_ble_eq_true rfl) d_Rooms_clause_12 ?_
  refine R_istore_n C (lv' := [(2, .int v6), (1, .int v1), (0, .ref (q.2.2.1 1))]) d_Rooms_clause_15 rfl (by decide) rfl ?_
  refine R_iload_n C 1 d_Rooms_clause_16 rfl rfl ?_
  refine R_iconst C d_Rooms_clause_17 (v := 4) (by decide +kernel) ?_
  refine R_icmp_ne C d_Rooms_clause_18 (tgt := 33) (by decide) ?_ ?_
  · skip
    refine R_iload_n C 1 d_Rooms_clause_33 rfl rfl ?_
    refine R_bipush C d_Rooms_clause_34 (v := 8) (by decide +kernel) ?_
    refine R_icmp_ne C d_Rooms_clause_36 (tgt := 51) (by decide) ?_ ?_
    · skip
      refine R_aload_n C 2 d_Rooms_clause_51 rfl rfl ?_
      refine R_bipush C d_Rooms_clause_52 (v := 32) (by decide +kernel) ?_
      refine R_bind (fun μ9 h10 => ?_)
      refine R_callV C xm_1 (xc_1 q _ _) rfl cf_Rooms_expects rfl ml_Rooms_96 im_Rooms_expects sl_Rooms_Rooms_expects_Rooms_expects (c_Rooms_expects (gk C) h10) (by decide) (by decide) rfl rfl (Nat.le_of_ble_eq_true rfl) d_Rooms_clause_54 ?_
      refine R_aload_n C 2 d_Rooms_clause_57 rfl rfl ?_
      refine R_iconst C d_Rooms_clause_58 (v := 0) (by decide +kernel) ?_
      refine R_bind (fun r_ h13 => ?_)
      obtain ⟨v11, μ12⟩ := r_
      refine R_callV C xm_1 (xc_1 q _ _) rfl cf_Rooms_either rfl ml_Rooms_103 im_Rooms_either sl_Rooms_Rooms_either_Rooms_either (c_Rooms_either (d := 8) (gk C) h13) (by omega) (by decide) rfl rfl (Nat.le_of_ble_eq_true rfl) d_Rooms_clause_59 ?_
      refine R_if_eq C d_Rooms_clause_62 (tgt := 85) (by decide) ?_ ?_
      · skip
        exact R_vret C rfl d_Rooms_clause_85
      · skip
        refine R_aload_n C 2 d_Rooms_clause_65 rfl rfl ?_
        refine R_dup C d_Rooms_clause_66 rfl ?_
        refine gf_Rooms_mouth C fl_Rooms_36 d_Rooms_clause_67 ?_
        refine R_iload_n C 1 d_Rooms_clause_70 rfl rfl ?_
        refine R_iconst C d_Rooms_clause_71 (v := 1) (by decide +kernel) ?_
        refine R_jn (fun K16 => ∀ (j14 : Int32), R sdX q z 3 (φVm ν) (K16 j14) μ12 ν 81 [] [.int j14, .int (μ12 1 11), .ref (q.2.2.1 1)]) ?_ (fun K16 hK16 => ?_)
        · intro j14
          refine R_iadd C d_Rooms_clause_81 ?_
          refine pf_Rooms_mouth C fl_Rooms_36 d_Rooms_clause_82 (fun μ15 => ?_)
          exact R_vret C rfl d_Rooms_clause_85
        · skip
          refine R_icmp_ne C d_Rooms_clause_72 (tgt := 79) (by decide) ?_ ?_
          · skip
            refine R_iload_n C 0 d_Rooms_clause_79 rfl rfl ?_
            refine R_ineg C d_Rooms_clause_80 ?_
            exact R_sub [] rfl (hK16 (-v6))
          · skip
            refine R_iload_n C 0 d_Rooms_clause_75 rfl rfl ?_
            refine R_goto C d_Rooms_clause_76 (tgt := 81) (by decide) ?_
            exact R_sub [] rfl (hK16 v6)
    · skip
      refine R_aload_n C 2 d_Rooms_clause_39 rfl rfl ?_
      refine R_iconst C d_Rooms_clause_40 (v := 1) (by decide +kernel) ?_
      refine R_iload_n C 0 d_Rooms_clause_41 rfl rfl ?_
      refine R_max C ml_Rooms_58 sm_Math_max in_Math co_Math_max (by decide) (Nat.le_of_ble_eq_true rfl) d_Rooms_clause_42 ?_
      refine R_nm (fun x17 => ?_)
      refine pf_Rooms_cost C fl_Rooms_89 d_Rooms_clause_45 (fun μ18 => ?_)
      refine R_goto C d_Rooms_clause_48 (tgt := 85) (by decide) ?_
      exact R_vret C rfl d_Rooms_clause_85
  · skip
    refine R_aload_n C 2 d_Rooms_clause_21 rfl rfl ?_
    refine R_iconst C d_Rooms_clause_22 (v := 1) (by decide +kernel) ?_
    refine R_iload_n C 0 d_Rooms_clause_23 rfl rfl ?_
    refine R_max C ml_Rooms_58 sm_Math_max in_Math co_Math_max (by decide) (Nat.le_of_ble_eq_true rfl) d_Rooms_clause_24 ?_
    refine R_nm (fun x19 => ?_)
    refine pf_Rooms_wears C fl_Rooms_86 d_Rooms_clause_27 (fun μ20 => ?_)
    refine R_goto C d_Rooms_clause_30 (tgt := 85) (by decide) ?_
    exact R_vret C rfl d_Rooms_clause_85
theorem c_Rooms_clause {q : QT} (hg : GOk sdX q) {μ : Mm} {ν : Ml} {o : Mm} (ho : F_Rooms_clause μ = some o) : Ct sdX q y_Rooms_clause prog_5_method_12_code 3 none 20 [.ref (q.2.2.1 1)] μ ν ((φVm ν) o).1 ((φVm ν) o).2.1 ((φVm ν) o).2.2 := Ct_of rfl hg (fun z C => w_Rooms_clause C) (Nat.le_of_ble_eq_true rfl) ho
def L_Rooms_reads_30 (k : Mm → Option (Int32 × Mm)) : Nat → Int32 → Mm → Option (Int32 × Mm)
  | 0, _, _ => none
  | n + 1, s3, μ4 => (if 10 ≤ s3 then k μ4 else jn (α := Unit) (fun K9 => (if s3 = 0 then K9 () else (if (μ4 1 5) = 59 then K9 () else k μ4))) (fun (_ : Unit) => (F_Rooms_steps μ4).bind fun μ5 => (F_Rooms_clause μ5).bind fun μ7 => L_Rooms_reads_30 k n (s3 + 1) μ7))
def F_Rooms_reads (a1 : Int32) (a2 : Nat) (a3 : Int32) (a4 : Int32) (μ : Mm) : Option (Int32 × Mm) := (F_Rooms_begins a1 a2 a3 a4 μ).bind fun μ1 => (if (μ1 1 3) < 0 then some ((-1), μ1) else (if (μ1 1 3) ≤ 6 then L_Rooms_reads_30 (fun (μ10 : Mm) => jn (α := Mm) (fun K16 => (if (μ10 1 5) = (-1) then K16 μ10 else (F_Rooms_fails μ10).bind fun μ11 => K16 μ11)) (fun (μ13 : Mm) => lt_ (if 0 < (μ13 1 11) then (μ13 1 11) else 0) fun x14 => lt_ (up2 μ13 1 11 x14) fun μ15 => some ((μ15 1 6), μ15))) fu 0 μ1 else some ((-1), μ1)))
theorem d_Rooms_reads_0 : decode prog_5_method_7_code 0 = .ok (.aload_n 0, 1) := by decide +kernel
theorem d_Rooms_reads_1 : decode prog_5_method_7_code 1 = .ok (.iload_n 1, 1) := by decide +kernel
theorem d_Rooms_reads_2 : decode prog_5_method_7_code 2 = .ok (.aload_n 2, 1) := by decide +kernel
theorem d_Rooms_reads_3 : decode prog_5_method_7_code 3 = .ok (.iload_n 3, 1) := by decide +kernel
theorem d_Rooms_reads_4 : decode prog_5_method_7_code 4 = .ok (.iload 4, 2) := by decide +kernel
theorem d_Rooms_reads_6 : decode prog_5_method_7_code 6 = .ok (.invokevirtual 39, 3) := by decide +kernel
theorem d_Rooms_reads_9 : decode prog_5_method_7_code 9 = .ok (.aload_n 0, 1) := by decide +kernel
theorem d_Rooms_reads_25 : decode prog_5_method_7_code 25 = .ok (.iconst (-1), 1) := by decide +kernel
theorem d_Rooms_reads_26 : decode prog_5_method_7_code 26 = .ok (.ireturn, 1) := by decide +kernel
theorem d_Rooms_reads_16 : decode prog_5_method_7_code 16 = .ok (.aload_n 0, 1) := by decide +kernel
theorem d_Rooms_reads_20 : decode prog_5_method_7_code 20 = .ok (.bipush 6, 2) := by decide +kernel
theorem d_Rooms_reads_27 : decode prog_5_method_7_code 27 = .ok (.iconst 0, 1) := by decide +kernel
theorem d_Rooms_reads_28 : decode prog_5_method_7_code 28 = .ok (.istore 5, 2) := by decide +kernel
theorem d_Rooms_reads_30 : decode prog_5_method_7_code 30 = .ok (.iload 5, 2) := by decide +kernel
theorem d_Rooms_reads_32 : decode prog_5_method_7_code 32 = .ok (.bipush 10, 2) := by decide +kernel
theorem d_Rooms_reads_37 : decode prog_5_method_7_code 37 = .ok (.iload 5, 2) := by decide +kernel
theorem d_Rooms_reads_42 : decode prog_5_method_7_code 42 = .ok (.aload_n 0, 1) := by decide +kernel
theorem d_Rooms_reads_46 : decode prog_5_method_7_code 46 = .ok (.bipush 59, 2) := by decide +kernel
theorem d_Rooms_reads_48 : decode prog_5_method_7_code 48 = .ok (.if_icmp .ne 17, 3) := by decide +kernel
theorem d_Rooms_reads_43 : decode prog_5_method_7_code 43 = .ok (.getfield 46, 3) := by decide +kernel
theorem d_Rooms_reads_39 : decode prog_5_method_7_code 39 = .ok (.ifCond .eq 12, 3) := by decide +kernel
theorem d_Rooms_reads_51 : decode prog_5_method_7_code 51 = .ok (.aload_n 0, 1) := by decide +kernel
theorem d_Rooms_reads_52 : decode prog_5_method_7_code 52 = .ok (.invokevirtual 49, 3) := by decide +kernel
theorem d_Rooms_reads_55 : decode prog_5_method_7_code 55 = .ok (.aload_n 0, 1) := by decide +kernel
theorem d_Rooms_reads_56 : decode prog_5_method_7_code 56 = .ok (.invokevirtual 52, 3) := by decide +kernel
theorem d_Rooms_reads_59 : decode prog_5_method_7_code 59 = .ok (.iinc 5 1, 3) := by decide +kernel
theorem d_Rooms_reads_62 : decode prog_5_method_7_code 62 = .ok (.goto (-32), 3) := by decide +kernel
theorem d_Rooms_reads_34 : decode prog_5_method_7_code 34 = .ok (.if_icmp .ge 31, 3) := by decide +kernel
set_option maxRecDepth 10000 in
set_option maxHeartbeats 4000000 in
theorem W_Rooms_reads_30 {q : QT} {z : ZT} {ν : Ml} {k : Mm → Option (Int32 × Mm)} (C : Ctx sdX q z prog_5_method_7_code "BesideTom$Rooms" 6 21 (some (FieldType.int))) (hk : ∀ (me_ : Mm), R sdX q z 6 (φIm ν) (k me_) me_ ν 65 [(0, .ref (q.2.2.1 1))] []) : ∀ (n : Nat) (s3 : Int32) (μ4 : Mm), R sdX q z 6 (φIm ν) (L_Rooms_reads_30 k n s3 μ4) μ4 ν 30 [(5, .int s3), (0, .ref (q.2.2.1 1))] [] := by
  intro n
  induction n with
  | zero =>
    intros
    exact R_none
  | succ n ih =>
    intro s3 μ4
    rw [L_Rooms_reads_30]
    refine R_iload C 0 d_Rooms_reads_30 rfl ?_
    refine R_bipush C d_Rooms_reads_32 (v := 10) (by decide +kernel) ?_
    refine R_icmp_ge C d_Rooms_reads_34 (tgt := 65) (by decide) ?_ ?_
    · skip
      exact R_sub [1] rfl (hk μ4)
    · skip
      refine R_iload C 0 d_Rooms_reads_37 rfl ?_
      refine R_jn (fun K9 => R sdX q z 6 (φIm ν) (K9 ()) μ4 ν 51 [(0, .ref (q.2.2.1 1)), (5, .int s3)] []) ?_ (fun K9 hK9 => ?_)
      · skip
        refine R_aload_n C 0 d_Rooms_reads_51 rfl rfl ?_
        refine R_bind (fun μ5 h6 => ?_)
        refine R_callV C xm_1 (xc_1 q _ _) rfl cf_Rooms_steps rfl ml_Rooms_49 im_Rooms_steps sl_Rooms_Rooms_steps_Rooms_steps (c_Rooms_steps (gk C) h6) (by decide) (by decide) rfl rfl (Nat.le_of_ble_eq_true rfl) d_Rooms_reads_52 ?_
        refine R_aload_n C 0 d_Rooms_reads_55 rfl rfl ?_
        refine R_bind (fun μ7 h8 => ?_)
        refine R_callV C xm_1 (xc_1 q _ _) rfl cf_Rooms_clause rfl ml_Rooms_52 im_Rooms_clause sl_Rooms_Rooms_clause_Rooms_clause (c_Rooms_clause (gk C) h8) (by decide) (by decide) rfl rfl (Nat.le_of_ble_eq_true rfl) d_Rooms_reads_56 ?_
        refine R_iinc C 1 d_Rooms_reads_59 rfl (iinc_v _ (v := 1) (by decide +kernel)) (lv' := [(5, .int (s3 + 1)), (0, .ref (q.2.2.1 1))]) (by decide) rfl ?_
        refine R_goto C d_Rooms_reads_62 (tgt := 30) (by decide) ?_
        exact R_sub [0, 1] rfl (ih (s3 + 1) μ7)
      · skip
        refine R_if_eq C d_Rooms_reads_39 (tgt := 51) (by decide) ?_ ?_
        · skip
          exact R_sub [1, 0] rfl (hK9)
        · skip
          refine R_aload_n C 1 d_Rooms_reads_42 rfl rfl ?_
          refine gf_Rooms_sign C fl_Rooms_46 d_Rooms_reads_43 ?_
          refine R_bipush C d_Rooms_reads_46 (v := 59) (by decide +kernel) ?_
          refine R_icmp_ne C d_Rooms_reads_48 (tgt := 65) (by decide) ?_ ?_
          · skip
            exact R_sub [1] rfl (hk μ4)
          · skip
            exact R_sub [1, 0] rfl (hK9)
theorem d_Rooms_reads_65 : decode prog_5_method_7_code 65 = .ok (.aload_n 0, 1) := by decide +kernel
theorem d_Rooms_reads_69 : decode prog_5_method_7_code 69 = .ok (.iconst (-1), 1) := by decide +kernel
theorem d_Rooms_reads_73 : decode prog_5_method_7_code 73 = .ok (.aload_n 0, 1) := by decide +kernel
theorem d_Rooms_reads_74 : decode prog_5_method_7_code 74 = .ok (.invokevirtual 55, 3) := by decide +kernel
theorem d_Rooms_reads_70 : decode prog_5_method_7_code 70 = .ok (.if_icmp .eq 7, 3) := by decide +kernel
theorem d_Rooms_reads_77 : decode prog_5_method_7_code 77 = .ok (.aload_n 0, 1) := by decide +kernel
theorem d_Rooms_reads_78 : decode prog_5_method_7_code 78 = .ok (.iconst 0, 1) := by decide +kernel
theorem d_Rooms_reads_79 : decode prog_5_method_7_code 79 = .ok (.aload_n 0, 1) := by decide +kernel
theorem d_Rooms_reads_83 : decode prog_5_method_7_code 83 = .ok (.invokestatic 58, 3) := by decide +kernel
theorem d_Rooms_reads_89 : decode prog_5_method_7_code 89 = .ok (.aload_n 0, 1) := by decide +kernel
theorem d_Rooms_reads_93 : decode prog_5_method_7_code 93 = .ok (.ireturn, 1) := by decide +kernel
theorem d_Rooms_reads_90 : decode prog_5_method_7_code 90 = .ok (.getfield 64, 3) := by decide +kernel
theorem d_Rooms_reads_80 : decode prog_5_method_7_code 80 = .ok (.getfield 36, 3) := by decide +kernel
theorem d_Rooms_reads_66 : decode prog_5_method_7_code 66 = .ok (.getfield 46, 3) := by decide +kernel
theorem d_Rooms_reads_22 : decode prog_5_method_7_code 22 = .ok (.if_icmp .le 5, 3) := by decide +kernel
theorem d_Rooms_reads_17 : decode prog_5_method_7_code 17 = .ok (.getfield 43, 3) := by decide +kernel
theorem d_Rooms_reads_13 : decode prog_5_method_7_code 13 = .ok (.ifCond .lt 12, 3) := by decide +kernel
theorem d_Rooms_reads_10 : decode prog_5_method_7_code 10 = .ok (.getfield 43, 3) := by decide +kernel
theorem d_Rooms_reads_86 : decode prog_5_method_7_code 86 = .ok (.putfield 36, 3) := by decide +kernel
set_option maxRecDepth 10000 in
set_option maxHeartbeats 4000000 in
theorem w_Rooms_reads {q : QT} {z : ZT} {a1 : Int32} {a2 : Nat} {a3 : Int32} {a4 : Int32} {μ : Mm} {ν : Ml} (C : Ctx sdX q z prog_5_method_7_code "BesideTom$Rooms" 6 21 (some (FieldType.int))) (h_a2 : a2 ∈ seats) : R sdX q z 6 (φIm ν) (F_Rooms_reads a1 a2 a3 a4 μ) μ ν 0 [(0, .ref (q.2.2.1 1)), (1, .int a1), (2, .ref (q.2.2.1 a2)), (3, .int a3), (4, .int a4)] [] := by
  unfold F_Rooms_reads
  refine R_aload_n C 0 d_Rooms_reads_0 rfl rfl ?_
  refine R_iload_n C 1 d_Rooms_reads_1 rfl rfl ?_
  refine R_aload_n C 2 d_Rooms_reads_2 rfl rfl ?_
  refine R_iload_n C 3 d_Rooms_reads_3 rfl rfl ?_
  refine R_iload C 4 d_Rooms_reads_4 rfl ?_
  refine R_bind (fun μ1 h2 => ?_)
  refine R_callV C xm_1 (xc_1 q _ _) rfl cf_Rooms_begins rfl ml_Rooms_39 im_Rooms_begins sl_Rooms_Rooms_begins_Rooms_begins (c_Rooms_begins (gk C) h_a2 h2) (by decide) (by decide) rfl rfl (Nat.le_of_ble_eq_true rfl) d_Rooms_reads_6 ?_
  refine R_aload_n C 0 d_Rooms_reads_9 rfl rfl ?_
  refine gf_Rooms_row C fl_Rooms_43 d_Rooms_reads_10 ?_
  refine R_if_lt C d_Rooms_reads_13 (tgt := 25) (by decide) ?_ ?_
  · skip
    refine R_iconst C d_Rooms_reads_25 (v := (-1)) (by decide +kernel) ?_
    exact R_iret C rfl d_Rooms_reads_26
  · skip
    refine R_aload_n C 0 d_Rooms_reads_16 rfl rfl ?_
    refine gf_Rooms_row C fl_Rooms_43 d_Rooms_reads_17 ?_
    refine R_bipush C d_Rooms_reads_20 (v := 6) (by decide +kernel) ?_
    refine R_icmp_le C d_Rooms_reads_22 (tgt := 27) (by decide) ?_ ?_
    · skip
      refine R_iconst C d_Rooms_reads_27 (v := 0) (by decide +kernel) ?_
      refine R_istore C (lv' := [(5, .int 0), (0, .ref (q.2.2.1 1)), (1, .int a1), (2, .ref (q.2.2.1 a2)), (3, .int a3), (4, .int a4)]) d_Rooms_reads_28 (by decide) rfl ?_
      refine R_sub [0, 1] rfl ?_
      refine W_Rooms_reads_30 C ?_ fu _ _
      intro μ10
      refine R_aload_n C 0 d_Rooms_reads_65 rfl rfl ?_
      refine gf_Rooms_sign C fl_Rooms_46 d_Rooms_reads_66 ?_
      refine R_iconst C d_Rooms_reads_69 (v := (-1)) (by decide +kernel) ?_
      refine R_jn (fun K16 => ∀ (μ13 : Mm), R sdX q z 6 (φIm ν) (K16 μ13) μ13 ν 77 [(0, .ref (q.2.2.1 1))] []) ?_ (fun K16 hK16 => ?_)
      · intro μ13
        refine R_aload_n C 0 d_Rooms_reads_77 rfl rfl ?_
        refine R_iconst C d_Rooms_reads_78 (v := 0) (by decide +kernel) ?_
        refine R_aload_n C 0 d_Rooms_reads_79 rfl rfl ?_
        refine gf_Rooms_mouth C fl_Rooms_36 d_Rooms_reads_80 ?_
        refine R_max C ml_Rooms_58 sm_Math_max in_Math co_Math_max (by decide) (Nat.le_of_ble_eq_true rfl) d_Rooms_reads_83 ?_
        refine R_nm (fun x14 => ?_)
        refine pf_Rooms_mouth C fl_Rooms_36 d_Rooms_reads_86 (fun μ15 => ?_)
        refine R_aload_n C 0 d_Rooms_reads_89 rfl rfl ?_
        refine gf_Rooms_fault C fl_Rooms_64 d_Rooms_reads_90 ?_
        exact R_iret C rfl d_Rooms_reads_93
      · skip
        refine R_icmp_eq C d_Rooms_reads_70 (tgt := 77) (by decide) ?_ ?_
        · skip
          exact R_sub [0] rfl (hK16 μ10)
        · skip
          refine R_aload_n C 0 d_Rooms_reads_73 rfl rfl ?_
          refine R_bind (fun μ11 h12 => ?_)
          refine R_callV C xm_1 (xc_1 q _ _) rfl cf_Rooms_fails rfl ml_Rooms_55 im_Rooms_fails sl_Rooms_Rooms_fails_Rooms_fails (c_Rooms_fails (gk C) h12) (by decide) (by decide) rfl rfl (Nat.le_of_ble_eq_true rfl) d_Rooms_reads_74 ?_
          exact R_sub [0] rfl (hK16 μ11)
    · skip
      refine R_iconst C d_Rooms_reads_25 (v := (-1)) (by decide +kernel) ?_
      exact R_iret C rfl d_Rooms_reads_26
theorem c_Rooms_reads {q : QT} (hg : GOk sdX q) {a1 : Int32} {a2 : Nat} {a3 : Int32} {a4 : Int32} {μ : Mm} {ν : Ml} (h_a2 : a2 ∈ seats) {o : Int32 × Mm} (ho : F_Rooms_reads a1 a2 a3 a4 μ = some o) : Ct sdX q y_Rooms_reads prog_5_method_7_code 6 (some (FieldType.int)) 21 [.ref (q.2.2.1 1), .int a1, .ref (q.2.2.1 a2), .int a3, .int a4] μ ν ((φIm ν) o).1 ((φIm ν) o).2.1 ((φIm ν) o).2.2 := Ct_of rfl hg (fun z C => w_Rooms_reads C h_a2) (Nat.le_of_ble_eq_true rfl) ho
def L_Rooms_settles_12 (f6 : Nat) (f7 : Int32) (f8 : Int32) (k : Mm → Option (Mm)) : Nat → Int32 → Mm → Option (Mm)
  | 0, _, _ => none
  | n + 1, s5, μ9 => (if 6 ≤ s5 then k μ9 else (F_Rooms_reads (μ9 f6 6) f6 f8 s5 μ9).bind fun p_ => match p_ with | (v10, μ11) => (wrI μ11 (f6 + 6) 36 ((f8 * 6) + s5) (μ11 1 11)).bind fun μ13 => L_Rooms_settles_12 f6 f7 f8 k n (s5 + 1) μ13)
def L_Rooms_settles_3 (f2 : Nat) (f3 : Int32) (k : Mm → Option (Mm)) : Nat → Int32 → Mm → Option (Mm)
  | 0, _, _ => none
  | n + 1, s1, μ4 => (if f3 ≤ s1 then k μ4 else L_Rooms_settles_12 f2 f3 s1 (fun (μ14 : Mm) => L_Rooms_settles_3 f2 f3 k n (s1 + 1) μ14) fu 0 μ4)
def F_Rooms_settles (a1 : Nat) (a2 : Int32) (a3 : Int32) (μ : Mm) : Option (Mm) := L_Rooms_settles_3 a1 a3 (fun (μ15 : Mm) => some μ15) fu a2 μ
theorem d_Rooms_settles_0 : decode prog_5_method_6_code 0 = .ok (.iload_n 2, 1) := by decide +kernel
theorem d_Rooms_settles_1 : decode prog_5_method_6_code 1 = .ok (.istore 4, 2) := by decide +kernel
theorem d_Rooms_settles_3 : decode prog_5_method_6_code 3 = .ok (.iload 4, 2) := by decide +kernel
theorem d_Rooms_settles_5 : decode prog_5_method_6_code 5 = .ok (.iload_n 3, 1) := by decide +kernel
theorem d_Rooms_settles_9 : decode prog_5_method_6_code 9 = .ok (.iconst 0, 1) := by decide +kernel
theorem d_Rooms_settles_10 : decode prog_5_method_6_code 10 = .ok (.istore 5, 2) := by decide +kernel
theorem d_Rooms_settles_12 : decode prog_5_method_6_code 12 = .ok (.iload 5, 2) := by decide +kernel
theorem d_Rooms_settles_14 : decode prog_5_method_6_code 14 = .ok (.bipush 6, 2) := by decide +kernel
theorem d_Rooms_settles_19 : decode prog_5_method_6_code 19 = .ok (.aload_n 0, 1) := by decide +kernel
theorem d_Rooms_settles_20 : decode prog_5_method_6_code 20 = .ok (.aload_n 1, 1) := by decide +kernel
theorem d_Rooms_settles_24 : decode prog_5_method_6_code 24 = .ok (.aload_n 1, 1) := by decide +kernel
theorem d_Rooms_settles_25 : decode prog_5_method_6_code 25 = .ok (.iload 4, 2) := by decide +kernel
theorem d_Rooms_settles_27 : decode prog_5_method_6_code 27 = .ok (.iload 5, 2) := by decide +kernel
theorem d_Rooms_settles_29 : decode prog_5_method_6_code 29 = .ok (.invokevirtual 29, 3) := by decide +kernel
theorem d_Rooms_settles_32 : decode prog_5_method_6_code 32 = .ok (.pop, 1) := by decide +kernel
theorem d_Rooms_settles_33 : decode prog_5_method_6_code 33 = .ok (.aload_n 1, 1) := by decide +kernel
theorem d_Rooms_settles_37 : decode prog_5_method_6_code 37 = .ok (.iload 4, 2) := by decide +kernel
theorem d_Rooms_settles_39 : decode prog_5_method_6_code 39 = .ok (.bipush 6, 2) := by decide +kernel
theorem d_Rooms_settles_41 : decode prog_5_method_6_code 41 = .ok (.imul, 1) := by decide +kernel
theorem d_Rooms_settles_42 : decode prog_5_method_6_code 42 = .ok (.iload 5, 2) := by decide +kernel
theorem d_Rooms_settles_44 : decode prog_5_method_6_code 44 = .ok (.iadd, 1) := by decide +kernel
theorem d_Rooms_settles_45 : decode prog_5_method_6_code 45 = .ok (.aload_n 0, 1) := by decide +kernel
theorem d_Rooms_settles_50 : decode prog_5_method_6_code 50 = .ok (.iinc 5 1, 3) := by decide +kernel
theorem d_Rooms_settles_53 : decode prog_5_method_6_code 53 = .ok (.goto (-41), 3) := by decide +kernel
theorem d_Rooms_settles_49 : decode prog_5_method_6_code 49 = .ok (.iastore, 1) := by decide +kernel
theorem d_Rooms_settles_46 : decode prog_5_method_6_code 46 = .ok (.getfield 36, 3) := by decide +kernel
theorem d_Rooms_settles_34 : decode prog_5_method_6_code 34 = .ok (.getfield 33, 3) := by decide +kernel
theorem d_Rooms_settles_21 : decode prog_5_method_6_code 21 = .ok (.getfield 24, 3) := by decide +kernel
theorem d_Rooms_settles_16 : decode prog_5_method_6_code 16 = .ok (.if_icmp .ge 40, 3) := by decide +kernel
set_option maxRecDepth 10000 in
set_option maxHeartbeats 4000000 in
theorem W_Rooms_settles_12 {q : QT} {z : ZT} {ν : Ml} {f6 : Nat} {f7 : Int32} {f8 : Int32} {k : Mm → Option (Mm)} (C : Ctx sdX q z prog_5_method_6_code "BesideTom$Rooms" 6 22 none) (h_f6 : f6 ∈ seats) (hk : ∀ (me_ : Mm), R sdX q z 6 (φVm ν) (k me_) me_ ν 56 [(0, .ref (q.2.2.1 1)), (1, .ref (q.2.2.1 f6)), (3, .int f7), (4, .int f8)] []) : ∀ (n : Nat) (s5 : Int32) (μ9 : Mm), R sdX q z 6 (φVm ν) (L_Rooms_settles_12 f6 f7 f8 k n s5 μ9) μ9 ν 12 [(5, .int s5), (0, .ref (q.2.2.1 1)), (1, .ref (q.2.2.1 f6)), (3, .int f7), (4, .int f8)] [] := by
  intro n
  induction n with
  | zero =>
    intros
    exact R_none
  | succ n ih =>
    intro s5 μ9
    rw [L_Rooms_settles_12]
    refine R_iload C 0 d_Rooms_settles_12 rfl ?_
    refine R_bipush C d_Rooms_settles_14 (v := 6) (by decide +kernel) ?_
    refine R_icmp_ge C d_Rooms_settles_16 (tgt := 56) (by decide) ?_ ?_
    · skip
      exact R_sub [1, 2, 3, 4] rfl (hk μ9)
    · skip
      refine R_aload_n C 1 d_Rooms_settles_19 rfl rfl ?_
      refine R_aload_n C 2 d_Rooms_settles_20 rfl rfl ?_
      refine gf_Seat_held C h_f6 fl_Rooms_24 d_Rooms_settles_21 ?_
      refine R_aload_n C 2 d_Rooms_settles_24 rfl rfl ?_
      refine R_iload C 4 d_Rooms_settles_25 rfl ?_
      refine R_iload C 0 d_Rooms_settles_27 rfl ?_
      refine R_bind (fun r_ h12 => ?_)
      obtain ⟨v10, μ11⟩ := r_
      refine R_callV C xm_1 (xc_1 q _ _) rfl cf_Rooms_reads rfl ml_Rooms_29 im_Rooms_reads sl_Rooms_Rooms_reads_Rooms_reads (c_Rooms_reads (gk C) h_f6 h12) (by decide) (by decide) rfl rfl (Nat.le_of_ble_eq_true rfl) d_Rooms_settles_29 ?_
      refine R_pop C d_Rooms_settles_32 rfl ?_
      refine R_aload_n C 2 d_Rooms_settles_33 rfl rfl ?_
      refine gf_Seat_mouths C h_f6 fl_Rooms_33 d_Rooms_settles_34 ?_
      refine R_iload C 4 d_Rooms_settles_37 rfl ?_
      refine R_bipush C d_Rooms_settles_39 (v := 6) (by decide +kernel) ?_
      refine R_imul C d_Rooms_settles_41 ?_
      refine R_iload C 0 d_Rooms_settles_42 rfl ?_
      refine R_iadd C d_Rooms_settles_44 ?_
      refine R_aload_n C 1 d_Rooms_settles_45 rfl rfl ?_
      refine gf_Rooms_mouth C fl_Rooms_36 d_Rooms_settles_46 ?_
      refine R_iast C (se_6 h_f6) (fun h => sc_6 h_f6 q h _) d_Rooms_settles_49 (fun μ13 => ?_)
      refine R_iinc C 0 d_Rooms_settles_50 rfl (iinc_v _ (v := 1) (by decide +kernel)) (lv' := [(5, .int (s5 + 1)), (0, .ref (q.2.2.1 1)), (1, .ref (q.2.2.1 f6)), (3, .int f7), (4, .int f8)]) (by decide) rfl ?_
      refine R_goto C d_Rooms_settles_53 (tgt := 12) (by decide) ?_
      exact R_sub [0, 1, 2, 3, 4] rfl (ih (s5 + 1) μ13)
theorem d_Rooms_settles_56 : decode prog_5_method_6_code 56 = .ok (.iinc 4 1, 3) := by decide +kernel
theorem d_Rooms_settles_59 : decode prog_5_method_6_code 59 = .ok (.goto (-56), 3) := by decide +kernel
theorem d_Rooms_settles_6 : decode prog_5_method_6_code 6 = .ok (.if_icmp .ge 56, 3) := by decide +kernel
set_option maxRecDepth 10000 in
set_option maxHeartbeats 4000000 in
theorem W_Rooms_settles_3 {q : QT} {z : ZT} {ν : Ml} {f2 : Nat} {f3 : Int32} {k : Mm → Option (Mm)} (C : Ctx sdX q z prog_5_method_6_code "BesideTom$Rooms" 6 22 none) (h_f2 : f2 ∈ seats) (hk : ∀ (me_ : Mm), R sdX q z 6 (φVm ν) (k me_) me_ ν 62 [] []) : ∀ (n : Nat) (s1 : Int32) (μ4 : Mm), R sdX q z 6 (φVm ν) (L_Rooms_settles_3 f2 f3 k n s1 μ4) μ4 ν 3 [(4, .int s1), (0, .ref (q.2.2.1 1)), (1, .ref (q.2.2.1 f2)), (3, .int f3)] [] := by
  intro n
  induction n with
  | zero =>
    intros
    exact R_none
  | succ n ih =>
    intro s1 μ4
    rw [L_Rooms_settles_3]
    refine R_iload C 0 d_Rooms_settles_3 rfl ?_
    refine R_iload_n C 3 d_Rooms_settles_5 rfl rfl ?_
    refine R_icmp_ge C d_Rooms_settles_6 (tgt := 62) (by decide) ?_ ?_
    · skip
      exact R_sub [] rfl (hk μ4)
    · skip
      refine R_iconst C d_Rooms_settles_9 (v := 0) (by decide +kernel) ?_
      refine R_istore C (lv' := [(5, .int 0), (4, .int s1), (0, .ref (q.2.2.1 1)), (1, .ref (q.2.2.1 f2)), (3, .int f3)]) d_Rooms_settles_10 (by decide) rfl ?_
      refine R_sub [0, 2, 3, 4, 1] rfl ?_
      refine W_Rooms_settles_12 C h_f2 ?_ fu _ _
      intro μ14
      refine R_iinc C 3 d_Rooms_settles_56 rfl (iinc_v _ (v := 1) (by decide +kernel)) (lv' := [(4, .int (s1 + 1)), (0, .ref (q.2.2.1 1)), (1, .ref (q.2.2.1 f2)), (3, .int f3)]) (by decide) rfl ?_
      refine R_goto C d_Rooms_settles_59 (tgt := 3) (by decide) ?_
      exact R_sub [0, 1, 2, 3] rfl (ih (s1 + 1) μ14)
theorem d_Rooms_settles_62 : decode prog_5_method_6_code 62 = .ok (.return_, 1) := by decide +kernel
set_option maxRecDepth 10000 in
set_option maxHeartbeats 4000000 in
theorem w_Rooms_settles {q : QT} {z : ZT} {a1 : Nat} {a2 : Int32} {a3 : Int32} {μ : Mm} {ν : Ml} (C : Ctx sdX q z prog_5_method_6_code "BesideTom$Rooms" 6 22 none) (h_a1 : a1 ∈ seats) : R sdX q z 6 (φVm ν) (F_Rooms_settles a1 a2 a3 μ) μ ν 0 [(0, .ref (q.2.2.1 1)), (1, .ref (q.2.2.1 a1)), (2, .int a2), (3, .int a3)] [] := by
  unfold F_Rooms_settles
  refine R_iload_n C 2 d_Rooms_settles_0 rfl rfl ?_
  refine R_istore C (lv' := [(4, .int a2), (0, .ref (q.2.2.1 1)), (1, .ref (q.2.2.1 a1)), (2, .int a2), (3, .int a3)]) d_Rooms_settles_1 (by decide) rfl ?_
  refine R_sub [0, 1, 2, 4] rfl ?_
  refine W_Rooms_settles_3 C h_a1 ?_ fu _ _
  intro μ15
  exact R_vret C rfl d_Rooms_settles_62
theorem c_Rooms_settles {q : QT} (hg : GOk sdX q) {a1 : Nat} {a2 : Int32} {a3 : Int32} {μ : Mm} {ν : Ml} (h_a1 : a1 ∈ seats) {o : Mm} (ho : F_Rooms_settles a1 a2 a3 μ = some o) : Ct sdX q y_Rooms_settles prog_5_method_6_code 6 none 22 [.ref (q.2.2.1 1), .ref (q.2.2.1 a1), .int a2, .int a3] μ ν ((φVm ν) o).1 ((φVm ν) o).2.1 ((φVm ν) o).2.2 := Ct_of rfl hg (fun z C => w_Rooms_settles C h_a1) (Nat.le_of_ble_eq_true rfl) ho
def L_BT_can_43 (f10 : Int32) (f11 : Int32) (k : Int32 → Int32 → Mm → Option (Int32 × Mm)) : Nat → Int32 → Int32 → Int32 → Mm → Option (Int32 × Mm)
  | 0, _, _, _, _ => none
  | n + 1, s7, s8, s9, μ12 => (if s9 < 0 then k s7 s8 μ12 else (wrI μ12 62 6 f10 s9).bind fun μ13 => (F_Rooms_settles 60 f10 (f10 + 1) μ13).bind fun μ14 => (F_Seat_isAsHeard 60 μ14).bind fun v16 => jn (α := Int32 × Int32) (fun K20 => (if v16 = 0 then K20 (s7, s8) else K20 ((s7 + 1), s9))) (fun (p_ : Int32 × Int32) => match p_ with | (j18, j19) => L_BT_can_43 f10 f11 k n j18 j19 (s9 + (-1)) μ14))
def F_BT_can (a1 : Int32) (a2 : Int32) (μ : Mm) : Option (Int32 × Mm) := (F_Seat_has 40 a1 μ).bind fun v1 => (if v1 = 0 then some ((-1), μ) else (F_BT_within a2 0 1).bind fun v3 => (if v3 = 0 then some ((-1), μ) else (F_Seat_becomes 60 40 μ).bind fun μ5 => L_BT_can_43 a1 a2 (fun (x21 : Int32) (x22 : Int32) (μ23 : Mm) => (if a2 = 0 then some (x21, μ23) else some (x22, μ23))) fu 0 (-5) 9 μ5))
theorem d_BT_can_0 : decode prog_1_method_27_code 0 = .ok (.aload_n 0, 1) := by decide +kernel
theorem d_BT_can_4 : decode prog_1_method_27_code 4 = .ok (.iload_n 1, 1) := by decide +kernel
theorem d_BT_can_5 : decode prog_1_method_27_code 5 = .ok (.invokevirtual 92, 3) := by decide +kernel
theorem d_BT_can_20 : decode prog_1_method_27_code 20 = .ok (.iconst (-1), 1) := by decide +kernel
theorem d_BT_can_21 : decode prog_1_method_27_code 21 = .ok (.ireturn, 1) := by decide +kernel
theorem d_BT_can_11 : decode prog_1_method_27_code 11 = .ok (.iload_n 2, 1) := by decide +kernel
theorem d_BT_can_12 : decode prog_1_method_27_code 12 = .ok (.iconst 0, 1) := by decide +kernel
theorem d_BT_can_13 : decode prog_1_method_27_code 13 = .ok (.iconst 1, 1) := by decide +kernel
theorem d_BT_can_14 : decode prog_1_method_27_code 14 = .ok (.invokestatic 76, 3) := by decide +kernel
theorem d_BT_can_22 : decode prog_1_method_27_code 22 = .ok (.iconst 0, 1) := by decide +kernel
theorem d_BT_can_23 : decode prog_1_method_27_code 23 = .ok (.istore_n 3, 1) := by decide +kernel
theorem d_BT_can_24 : decode prog_1_method_27_code 24 = .ok (.bipush (-5), 2) := by decide +kernel
theorem d_BT_can_26 : decode prog_1_method_27_code 26 = .ok (.istore 4, 2) := by decide +kernel
theorem d_BT_can_28 : decode prog_1_method_27_code 28 = .ok (.aload_n 0, 1) := by decide +kernel
theorem d_BT_can_32 : decode prog_1_method_27_code 32 = .ok (.aload_n 0, 1) := by decide +kernel
theorem d_BT_can_36 : decode prog_1_method_27_code 36 = .ok (.invokevirtual 192, 3) := by decide +kernel
theorem d_BT_can_39 : decode prog_1_method_27_code 39 = .ok (.bipush 9, 2) := by decide +kernel
theorem d_BT_can_41 : decode prog_1_method_27_code 41 = .ok (.istore 5, 2) := by decide +kernel
theorem d_BT_can_43 : decode prog_1_method_27_code 43 = .ok (.iload 5, 2) := by decide +kernel
theorem d_BT_can_48 : decode prog_1_method_27_code 48 = .ok (.aload_n 0, 1) := by decide +kernel
theorem d_BT_can_55 : decode prog_1_method_27_code 55 = .ok (.iload_n 1, 1) := by decide +kernel
theorem d_BT_can_56 : decode prog_1_method_27_code 56 = .ok (.iload 5, 2) := by decide +kernel
theorem d_BT_can_59 : decode prog_1_method_27_code 59 = .ok (.aload_n 0, 1) := by decide +kernel
theorem d_BT_can_63 : decode prog_1_method_27_code 63 = .ok (.aload_n 0, 1) := by decide +kernel
theorem d_BT_can_67 : decode prog_1_method_27_code 67 = .ok (.iload_n 1, 1) := by decide +kernel
theorem d_BT_can_68 : decode prog_1_method_27_code 68 = .ok (.iload_n 1, 1) := by decide +kernel
theorem d_BT_can_69 : decode prog_1_method_27_code 69 = .ok (.iconst 1, 1) := by decide +kernel
theorem d_BT_can_70 : decode prog_1_method_27_code 70 = .ok (.iadd, 1) := by decide +kernel
theorem d_BT_can_71 : decode prog_1_method_27_code 71 = .ok (.invokevirtual 88, 3) := by decide +kernel
theorem d_BT_can_74 : decode prog_1_method_27_code 74 = .ok (.aload_n 0, 1) := by decide +kernel
theorem d_BT_can_78 : decode prog_1_method_27_code 78 = .ok (.invokevirtual 250, 3) := by decide +kernel
theorem d_BT_can_84 : decode prog_1_method_27_code 84 = .ok (.iinc 3 1, 3) := by decide +kernel
theorem d_BT_can_87 : decode prog_1_method_27_code 87 = .ok (.iload 5, 2) := by decide +kernel
theorem d_BT_can_89 : decode prog_1_method_27_code 89 = .ok (.istore 4, 2) := by decide +kernel
theorem d_BT_can_81 : decode prog_1_method_27_code 81 = .ok (.ifCond .eq 10, 3) := by decide +kernel
theorem d_BT_can_91 : decode prog_1_method_27_code 91 = .ok (.iinc 5 (-1), 3) := by decide +kernel
theorem d_BT_can_94 : decode prog_1_method_27_code 94 = .ok (.goto (-51), 3) := by decide +kernel
theorem d_BT_can_75 : decode prog_1_method_27_code 75 = .ok (.getfield 56, 3) := by decide +kernel
theorem d_BT_can_64 : decode prog_1_method_27_code 64 = .ok (.getfield 56, 3) := by decide +kernel
theorem d_BT_can_60 : decode prog_1_method_27_code 60 = .ok (.getfield 65, 3) := by decide +kernel
theorem d_BT_can_58 : decode prog_1_method_27_code 58 = .ok (.iastore, 1) := by decide +kernel
theorem d_BT_can_52 : decode prog_1_method_27_code 52 = .ok (.getfield 102, 3) := by decide +kernel
theorem d_BT_can_49 : decode prog_1_method_27_code 49 = .ok (.getfield 56, 3) := by decide +kernel
theorem d_BT_can_45 : decode prog_1_method_27_code 45 = .ok (.ifCond .lt 52, 3) := by decide +kernel
set_option maxRecDepth 10000 in
set_option maxHeartbeats 4000000 in
theorem W_BT_can_43 {q : QT} {z : ZT} {ν : Ml} {f10 : Int32} {f11 : Int32} {k : Int32 → Int32 → Mm → Option (Int32 × Mm)} (C : Ctx sdX q z prog_1_method_27_code "BesideTom" 6 23 (some (FieldType.int))) (hk : ∀ (e0_ : Int32) (e1_ : Int32) (me_ : Mm), R sdX q z 6 (φIm ν) (k e0_ e1_ me_) me_ ν 97 [(2, .int f11), (3, .int e0_), (4, .int e1_)] []) : ∀ (n : Nat) (s7 : Int32) (s8 : Int32) (s9 : Int32) (μ12 : Mm), R sdX q z 6 (φIm ν) (L_BT_can_43 f10 f11 k n s7 s8 s9 μ12) μ12 ν 43 [(3, .int s7), (4, .int s8), (5, .int s9), (0, .ref (q.2.2.1 0)), (1, .int f10), (2, .int f11)] [] := by
  intro n
  induction n with
  | zero =>
    intros
    exact R_none
  | succ n ih =>
    intro s7 s8 s9 μ12
    rw [L_BT_can_43]
    refine R_iload C 2 d_BT_can_43 rfl ?_
    refine R_if_lt C d_BT_can_45 (tgt := 97) (by decide) ?_ ?_
    · skip
      exact R_sub [5, 0, 1] rfl (hk s7 s8 μ12)
    · skip
      refine R_aload_n C 3 d_BT_can_48 rfl rfl ?_
      refine gf_BT_asked C fl_BT_56 d_BT_can_49 ?_
      refine gf_Seat_v C s60 fl_BT_102 d_BT_can_52 ?_
      refine R_iload_n C 4 d_BT_can_55 rfl rfl ?_
      refine R_iload C 2 d_BT_can_56 rfl ?_
      refine R_iast C (se_2 s60) (fun h => sc_2 s60 q h _) d_BT_can_58 (fun μ13 => ?_)
      refine R_aload_n C 3 d_BT_can_59 rfl rfl ?_
      refine gf_BT_rooms C fl_BT_65 d_BT_can_60 ?_
      refine R_aload_n C 3 d_BT_can_63 rfl rfl ?_
      refine gf_BT_asked C fl_BT_56 d_BT_can_64 ?_
      refine R_iload_n C 4 d_BT_can_67 rfl rfl ?_
      refine R_iload_n C 4 d_BT_can_68 rfl rfl ?_
      refine R_iconst C d_BT_can_69 (v := 1) (by decide +kernel) ?_
      refine R_iadd C d_BT_can_70 ?_
      refine R_bind (fun μ14 h15 => ?_)
      refine R_callV C xm_1 (xc_1 q _ _) rfl cf_Rooms_settles rfl ml_BT_88 im_Rooms_settles sl_Rooms_Rooms_settles_Rooms_settles (c_Rooms_settles (gk C) s60 h15) (by decide) (by decide) rfl rfl (Nat.le_of_ble_eq_true rfl) d_BT_can_71 ?_
      refine R_aload_n C 3 d_BT_can_74 rfl rfl ?_
      refine gf_BT_asked C fl_BT_56 d_BT_can_75 ?_
      refine R_bind (fun v16 h17 => ?_)
      refine R_callV C (se_0 s60) (sc_0 s60 q _ _) rfl cf_Seat_isAsHeard rfl ml_BT_250 im_Seat_isAsHeard sl_Seat_Seat_isAsHeard_Seat_isAsHeard (c_Seat_isAsHeard (gk C) s60 h17) (by decide) (by decide) rfl rfl (Nat.le_of_ble_eq_true rfl) d_BT_can_78 ?_
      refine R_jn (fun K20 => ∀ (j18 : Int32) (j19 : Int32), R sdX q z 6 (φIm ν) (K20 (j18, j19)) μ14 ν 91 [(0, .ref (q.2.2.1 0)), (1, .int f10), (2, .int f11), (3, .int j18), (4, .int j19), (5, .int s9)] []) ?_ (fun K20 hK20 => ?_)
      · intro j18 j19
        refine R_iinc C 5 d_BT_can_91 rfl (iinc_v _ (v := (-1)) (by decide +kernel)) (lv' := [(5, .int (s9 + (-1))), (0, .ref (q.2.2.1 0)), (1, .int f10), (2, .int f11), (3, .int j18), (4, .int j19)]) (by decide) rfl ?_
        refine R_goto C d_BT_can_94 (tgt := 43) (by decide) ?_
        exact R_sub [4, 5, 0, 1, 2, 3] rfl (ih j18 j19 (s9 + (-1)) μ14)
      · skip
        refine R_if_eq C d_BT_can_81 (tgt := 91) (by decide) ?_ ?_
        · skip
          exact R_sub [3, 4, 5, 0, 1, 2] rfl (hK20 s7 s8)
        · skip
          refine R_iinc C 0 d_BT_can_84 rfl (iinc_v _ (v := 1) (by decide +kernel)) (lv' := [(3, .int (s7 + 1)), (4, .int s8), (5, .int s9), (0, .ref (q.2.2.1 0)), (1, .int f10), (2, .int f11)]) (by decide) rfl ?_
          refine R_iload C 2 d_BT_can_87 rfl ?_
          refine R_istore C (lv' := [(4, .int s9), (3, .int (s7 + 1)), (5, .int s9), (0, .ref (q.2.2.1 0)), (1, .int f10), (2, .int f11)]) d_BT_can_89 (by decide) rfl ?_
          exact R_sub [3, 4, 5, 1, 0, 2] rfl (hK20 (s7 + 1) s9)
theorem d_BT_can_97 : decode prog_1_method_27_code 97 = .ok (.iload_n 2, 1) := by decide +kernel
theorem d_BT_can_105 : decode prog_1_method_27_code 105 = .ok (.iload 4, 2) := by decide +kernel
theorem d_BT_can_107 : decode prog_1_method_27_code 107 = .ok (.ireturn, 1) := by decide +kernel
theorem d_BT_can_101 : decode prog_1_method_27_code 101 = .ok (.iload_n 3, 1) := by decide +kernel
theorem d_BT_can_102 : decode prog_1_method_27_code 102 = .ok (.goto 5, 3) := by decide +kernel
theorem d_BT_can_98 : decode prog_1_method_27_code 98 = .ok (.ifCond .ne 7, 3) := by decide +kernel
theorem d_BT_can_33 : decode prog_1_method_27_code 33 = .ok (.getfield 52, 3) := by decide +kernel
theorem d_BT_can_29 : decode prog_1_method_27_code 29 = .ok (.getfield 56, 3) := by decide +kernel
theorem d_BT_can_17 : decode prog_1_method_27_code 17 = .ok (.ifCond .ne 5, 3) := by decide +kernel
theorem d_BT_can_8 : decode prog_1_method_27_code 8 = .ok (.ifCond .eq 12, 3) := by decide +kernel
theorem d_BT_can_1 : decode prog_1_method_27_code 1 = .ok (.getfield 52, 3) := by decide +kernel
set_option maxRecDepth 10000 in
set_option maxHeartbeats 4000000 in
theorem w_BT_can {q : QT} {z : ZT} {a1 : Int32} {a2 : Int32} {μ : Mm} {ν : Ml} (C : Ctx sdX q z prog_1_method_27_code "BesideTom" 6 23 (some (FieldType.int))) : R sdX q z 6 (φIm ν) (F_BT_can a1 a2 μ) μ ν 0 [(0, .ref (q.2.2.1 0)), (1, .int a1), (2, .int a2)] [] := by
  unfold F_BT_can
  refine R_aload_n C 0 d_BT_can_0 rfl rfl ?_
  refine gf_BT_now C fl_BT_52 d_BT_can_1 ?_
  refine R_iload_n C 1 d_BT_can_4 rfl rfl ?_
  refine R_bind (fun v1 h2 => ?_)
  refine R_callV C (se_0 s40) (sc_0 s40 q _ _) rfl cf_Seat_has rfl ml_BT_92 im_Seat_has sl_Seat_Seat_has_Seat_has (c_Seat_has (gk C) s40 h2) (by decide) (by decide) rfl rfl (Nat.le_of_ble_eq_true rfl) d_BT_can_5 ?_
  refine R_if_eq C d_BT_can_8 (tgt := 20) (by decide) ?_ ?_
  · skip
    refine R_iconst C d_BT_can_20 (v := (-1)) (by decide +kernel) ?_
    exact R_iret C rfl d_BT_can_21
  · skip
    refine R_iload_n C 2 d_BT_can_11 rfl rfl ?_
    refine R_iconst C d_BT_can_12 (v := 0) (by decide +kernel) ?_
    refine R_iconst C d_BT_can_13 (v := 1) (by decide +kernel) ?_
    refine R_bind (fun v3 h4 => ?_)
    refine R_callS C cf_BT_within ml_BT_76 sm_BT_within (c_BT_within (gk C) h4) (by decide) (by decide) rfl rfl (Nat.le_of_ble_eq_true rfl) d_BT_can_14 ?_
    refine R_if_ne C d_BT_can_17 (tgt := 22) (by decide) ?_ ?_
    · skip
      refine R_iconst C d_BT_can_22 (v := 0) (by decide +kernel) ?_
      refine R_istore_n C (lv' := [(3, .int 0), (0, .ref (q.2.2.1 0)), (1, .int a1), (2, .int a2)]) d_BT_can_23 rfl (by decide) rfl ?_
      refine R_bipush C d_BT_can_24 (v := (-5)) (by decide +kernel) ?_
      refine R_istore C (lv' := [(4, .int (-5)), (3, .int 0), (0, .ref (q.2.2.1 0)), (1, .int a1), (2, .int a2)]) d_BT_can_26 (by decide) rfl ?_
      refine R_aload_n C 2 d_BT_can_28 rfl rfl ?_
      refine gf_BT_asked C fl_BT_56 d_BT_can_29 ?_
      refine R_aload_n C 2 d_BT_can_32 rfl rfl ?_
      refine gf_BT_now C fl_BT_52 d_BT_can_33 ?_
      refine R_bind (fun μ5 h6 => ?_)
      refine R_callV C (se_0 s60) (sc_0 s60 q _ _) rfl cf_Seat_becomes rfl ml_BT_192 im_Seat_becomes sl_Seat_Seat_becomes_Seat_becomes (c_Seat_becomes (gk C) s60 s40 h6) (by decide) (by decide) rfl rfl (Nat.le_of_ble_eq_true rfl) d_BT_can_36 ?_
      refine R_bipush C d_BT_can_39 (v := 9) (by decide +kernel) ?_
      refine R_istore C (lv' := [(5, .int 9), (4, .int (-5)), (3, .int 0), (0, .ref (q.2.2.1 0)), (1, .int a1), (2, .int a2)]) d_BT_can_41 (by decide) rfl ?_
      refine R_sub [2, 1, 0, 3, 4, 5] rfl ?_
      refine W_BT_can_43 C ?_ fu _ _ _ _
      intro x21 x22 μ23
      refine R_iload_n C 0 d_BT_can_97 rfl rfl ?_
      refine R_if_ne C d_BT_can_98 (tgt := 105) (by decide) ?_ ?_
      · skip
        refine R_iload C 2 d_BT_can_105 rfl ?_
        exact R_iret C rfl d_BT_can_107
      · skip
        refine R_iload_n C 1 d_BT_can_101 rfl rfl ?_
        refine R_goto C d_BT_can_102 (tgt := 107) (by decide) ?_
        exact R_iret C rfl d_BT_can_107
    · skip
      refine R_iconst C d_BT_can_20 (v := (-1)) (by decide +kernel) ?_
      exact R_iret C rfl d_BT_can_21
theorem c_BT_can {q : QT} (hg : GOk sdX q) {a1 : Int32} {a2 : Int32} {μ : Mm} {ν : Ml} {o : Int32 × Mm} (ho : F_BT_can a1 a2 μ = some o) : Ct sdX q y_BT_can prog_1_method_27_code 6 (some (FieldType.int)) 23 [.ref (q.2.2.1 0), .int a1, .int a2] μ ν ((φIm ν) o).1 ((φIm ν) o).2.1 ((φIm ν) o).2.2 := Ct_of rfl hg (fun z C => w_BT_can C) (Nat.le_of_ble_eq_true rfl) ho
