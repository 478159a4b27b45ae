def F_BT_pupil (a1 : Int32) (a2 : Int32) (μ : Mm) : Option (Int32 × Mm) := (F_BT_within a1 0 6).bind fun v1 => (if v1 = 0 then some ((-1), μ) else (F_BT_within a2 0 9).bind fun v3 => (if v3 = 0 then some ((-2), μ) else (if (μ 40 1) < 6 then (F_Seat_adds 40 a1 a2 μ).bind fun p_ => match p_ with | (v5, μ6) => (F_Rooms_settles 40 v5 (v5 + 1) μ6).bind fun μ8 => some (v5, μ8) else some ((-4), μ))))
theorem d_BT_pupil_0 : decode prog_1_method_2_code 0 = .ok (.iload_n 1, 1) := by decide +kernel
theorem d_BT_pupil_1 : decode prog_1_method_2_code 1 = .ok (.iconst 0, 1) := by decide +kernel
theorem d_BT_pupil_2 : decode prog_1_method_2_code 2 = .ok (.bipush 6, 2) := by decide +kernel
theorem d_BT_pupil_4 : decode prog_1_method_2_code 4 = .ok (.invokestatic 76, 3) := by decide +kernel
theorem d_BT_pupil_12 : decode prog_1_method_2_code 12 = .ok (.iload_n 2, 1) := by decide +kernel
theorem d_BT_pupil_13 : decode prog_1_method_2_code 13 = .ok (.iconst 0, 1) := by decide +kernel
theorem d_BT_pupil_14 : decode prog_1_method_2_code 14 = .ok (.bipush 9, 2) := by decide +kernel
theorem d_BT_pupil_16 : decode prog_1_method_2_code 16 = .ok (.invokestatic 76, 3) := by decide +kernel
theorem d_BT_pupil_25 : decode prog_1_method_2_code 25 = .ok (.aload_n 0, 1) := by decide +kernel
theorem d_BT_pupil_32 : decode prog_1_method_2_code 32 = .ok (.bipush 6, 2) := by decide +kernel
theorem d_BT_pupil_40 : decode prog_1_method_2_code 40 = .ok (.aload_n 0, 1) := by decide +kernel
theorem d_BT_pupil_44 : decode prog_1_method_2_code 44 = .ok (.iload_n 1, 1) := by decide +kernel
theorem d_BT_pupil_45 : decode prog_1_method_2_code 45 = .ok (.iload_n 2, 1) := by decide +kernel
theorem d_BT_pupil_46 : decode prog_1_method_2_code 46 = .ok (.invokevirtual 84, 3) := by decide +kernel
theorem d_BT_pupil_49 : decode prog_1_method_2_code 49 = .ok (.istore_n 3, 1) := by decide +kernel
theorem d_BT_pupil_50 : decode prog_1_method_2_code 50 = .ok (.aload_n 0, 1) := by decide +kernel
theorem d_BT_pupil_54 : decode prog_1_method_2_code 54 = .ok (.aload_n 0, 1) := by decide +kernel
theorem d_BT_pupil_58 : decode prog_1_method_2_code 58 = .ok (.iload_n 3, 1) := by decide +kernel
theorem d_BT_pupil_59 : decode prog_1_method_2_code 59 = .ok (.iload_n 3, 1) := by decide +kernel
theorem d_BT_pupil_60 : decode prog_1_method_2_code 60 = .ok (.iconst 1, 1) := by decide +kernel
theorem d_BT_pupil_61 : decode prog_1_method_2_code 61 = .ok (.iadd, 1) := by decide +kernel
theorem d_BT_pupil_62 : decode prog_1_method_2_code 62 = .ok (.invokevirtual 88, 3) := by decide +kernel
theorem d_BT_pupil_65 : decode prog_1_method_2_code 65 = .ok (.iload_n 3, 1) := by decide +kernel
theorem d_BT_pupil_66 : decode prog_1_method_2_code 66 = .ok (.ireturn, 1) := by decide +kernel
theorem d_BT_pupil_55 : decode prog_1_method_2_code 55 = .ok (.getfield 52, 3) := by decide +kernel
theorem d_BT_pupil_51 : decode prog_1_method_2_code 51 = .ok (.getfield 65, 3) := by decide +kernel
theorem d_BT_pupil_41 : decode prog_1_method_2_code 41 = .ok (.getfield 52, 3) := by decide +kernel
theorem d_BT_pupil_37 : decode prog_1_method_2_code 37 = .ok (.bipush (-4), 2) := by decide +kernel
theorem d_BT_pupil_39 : decode prog_1_method_2_code 39 = .ok (.ireturn, 1) := by decide +kernel
theorem d_BT_pupil_34 : decode prog_1_method_2_code 34 = .ok (.if_icmp .lt 6, 3) := by decide +kernel
theorem d_BT_pupil_29 : decode prog_1_method_2_code 29 = .ok (.getfield 80, 3) := by decide +kernel
theorem d_BT_pupil_26 : decode prog_1_method_2_code 26 = .ok (.getfield 52, 3) := by decide +kernel
theorem d_BT_pupil_22 : decode prog_1_method_2_code 22 = .ok (.bipush (-2), 2) := by decide +kernel
theorem d_BT_pupil_24 : decode prog_1_method_2_code 24 = .ok (.ireturn, 1) := by decide +kernel
theorem d_BT_pupil_19 : decode prog_1_method_2_code 19 = .ok (.ifCond .ne 6, 3) := by decide +kernel
theorem d_BT_pupil_10 : decode prog_1_method_2_code 10 = .ok (.iconst (-1), 1) := by decide +kernel
theorem d_BT_pupil_11 : decode prog_1_method_2_code 11 = .ok (.ireturn, 1) := by decide +kernel
theorem d_BT_pupil_7 : decode prog_1_method_2_code 7 = .ok (.ifCond .ne 5, 3) := by decide +kernel
set_option maxRecDepth 10000 in
set_option maxHeartbeats 4000000 in
theorem w_BT_pupil {q : QT} {z : ZT} {a1 : Int32} {a2 : Int32} {μ : Mm} {ν : Ml} (C : Ctx sdX q z prog_1_method_2_code "BesideTom" 4 23 (some (FieldType.int))) : R sdX q z 4 (φIm ν) (F_BT_pupil a1 a2 μ) μ ν 0 [(0, .ref (q.2.2.1 0)), (1, .int a1), (2, .int a2)] [] := by
  unfold F_BT_pupil
  refine R_iload_n C 1 d_BT_pupil_0 rfl rfl ?_
  refine R_iconst C d_BT_pupil_1 (v := 0) (by decide +kernel) ?_
  refine R_bipush C d_BT_pupil_2 (v := 6) (by decide +kernel) ?_
  refine R_bind (fun v1 h2 => ?_)
  refine R_callS C cf_BT_within ml_BT_76 sm_BT_within (c_BT_within (gk C) h2) (by decide) (by decide) rfl rfl (Nat.le_of_ble_eq_true rfl) d_BT_pupil_4 ?_
  refine R_if_ne C d_BT_pupil_7 (tgt := 12) (by decide) ?_ ?_
  · skip
    refine R_iload_n C 2 d_BT_pupil_12 rfl rfl ?_
    refine R_iconst C d_BT_pupil_13 (v := 0) (by decide +kernel) ?_
    refine R_bipush C d_BT_pupil_14 (v := 9) (by decide +kernel) ?_
    refine R_bind (fun v3 h4 => ?_)
    refine R_callS C cf_BT_within ml_BT_76 sm_BT_within (c_BT_within (gk C) h4) (by decide) (by decide) rfl rfl (Nat.le_of_ble_eq_true rfl) d_BT_pupil_16 ?_
    refine R_if_ne C d_BT_pupil_19 (tgt := 25) (by decide) ?_ ?_
    · skip
      refine R_aload_n C 0 d_BT_pupil_25 rfl rfl ?_
      refine gf_BT_now C fl_BT_52 d_BT_pupil_26 ?_
      refine gf_Seat_many C s40 fl_BT_80 d_BT_pupil_29 ?_
      refine R_bipush C d_BT_pupil_32 (v := 6) (by decide +kernel) ?_
      refine R_icmp_lt C d_BT_pupil_34 (tgt := 40) (by decide) ?_ ?_
      · skip
        refine R_aload_n C 0 d_BT_pupil_40 rfl rfl ?_
        refine gf_BT_now C fl_BT_52 d_BT_pupil_41 ?_
        refine R_iload_n C 1 d_BT_pupil_44 rfl rfl ?_
        refine R_iload_n C 2 d_BT_pupil_45 rfl rfl ?_
        refine R_bind (fun r_ h7 => ?_)
        obtain ⟨v5, μ6⟩ := r_
        refine R_callV C (se_0 s40) (sc_0 s40 q _ _) rfl cf_Seat_adds rfl ml_BT_84 im_Seat_adds sl_Seat_Seat_adds_Seat_adds (c_Seat_adds (gk C) s40 h7) (by decide) (by decide) rfl rfl (Nat.le_of_ble_eq_true rfl) d_BT_pupil_46 ?_
        refine R_istore_n C (lv' := [(3, .int v5), (0, .ref (q.2.2.1 0)), (1, .int a1), (2, .int a2)]) d_BT_pupil_49 rfl (by decide) rfl ?_
        refine R_aload_n C 1 d_BT_pupil_50 rfl rfl ?_
        refine gf_BT_rooms C fl_BT_65 d_BT_pupil_51 ?_
        refine R_aload_n C 1 d_BT_pupil_54 rfl rfl ?_
        refine gf_BT_now C fl_BT_52 d_BT_pupil_55 ?_
        refine R_iload_n C 0 d_BT_pupil_58 rfl rfl ?_
        refine R_iload_n C 0 d_BT_pupil_59 rfl rfl ?_
        refine R_iconst C d_BT_pupil_60 (v := 1) (by decide +kernel) ?_
        refine R_iadd C d_BT_pupil_61 ?_
        refine R_bind (fun μ8 h9 => ?_)
        refine R_callV C xm_1 (xc_1 q _ _) rfl cf_Rooms_settles rfl ml_BT_88 im_Rooms_settles sl_Rooms_Rooms_settles_Rooms_settles (c_Rooms_settles (gk C) s40 h9) (by decide) (by decide) rfl rfl (Nat.le_of_ble_eq_true rfl) d_BT_pupil_62 ?_
        refine R_iload_n C 0 d_BT_pupil_65 rfl rfl ?_
        exact R_iret C rfl d_BT_pupil_66
      · skip
        refine R_bipush C d_BT_pupil_37 (v := (-4)) (by decide +kernel) ?_
        exact R_iret C rfl d_BT_pupil_39
    · skip
      refine R_bipush C d_BT_pupil_22 (v := (-2)) (by decide +kernel) ?_
      exact R_iret C rfl d_BT_pupil_24
  · skip
    refine R_iconst C d_BT_pupil_10 (v := (-1)) (by decide +kernel) ?_
    exact R_iret C rfl d_BT_pupil_11
theorem c_BT_pupil {q : QT} (hg : GOk sdX q) {a1 : Int32} {a2 : Int32} {μ : Mm} {ν : Ml} {o : Int32 × Mm} (ho : F_BT_pupil a1 a2 μ = some o) : Ct sdX q y_BT_pupil prog_1_method_2_code 4 (some (FieldType.int)) 23 [.ref (q.2.2.1 0), .int a1, .int a2] μ ν ((φIm ν) o).1 ((φIm ν) o).2.1 ((φIm ν) o).2.2 := Ct_of rfl hg (fun z C => w_BT_pupil C) (Nat.le_of_ble_eq_true rfl) ho
def F_BT_quietest (a1 : Int32) (μ : Mm) : Option (Int32 × Mm) := jn (α := Unit) (fun K9 => (if a1 = 0 then K9 () else (F_BT_isOfPupil a1 μ).bind fun v1 => (if v1 = 0 then some ((-1), μ) else K9 ()))) (fun (_ : Unit) => (F_BT_plansFromNow μ).bind fun μ3 => (F_BT_arrange 8 60 0 0 0 (-1000000000) μ3).bind fun p_ => match p_ with | (v5, μ6) => (if a1 = 0 then some ((-v5), μ6) else (rdI (μ6 13) 6 (a1 - 10)).bind fun v8 => some (v8, μ6)))
theorem d_BT_quietest_0 : decode prog_1_method_14_code 0 = .ok (.iload_n 1, 1) := by decide +kernel
theorem d_BT_quietest_4 : decode prog_1_method_14_code 4 = .ok (.aload_n 0, 1) := by decide +kernel
theorem d_BT_quietest_5 : decode prog_1_method_14_code 5 = .ok (.iload_n 1, 1) := by decide +kernel
theorem d_BT_quietest_6 : decode prog_1_method_14_code 6 = .ok (.invokevirtual 189, 3) := by decide +kernel
theorem d_BT_quietest_12 : decode prog_1_method_14_code 12 = .ok (.iconst (-1), 1) := by decide +kernel
theorem d_BT_quietest_13 : decode prog_1_method_14_code 13 = .ok (.ireturn, 1) := by decide +kernel
theorem d_BT_quietest_9 : decode prog_1_method_14_code 9 = .ok (.ifCond .ne 5, 3) := by decide +kernel
theorem d_BT_quietest_1 : decode prog_1_method_14_code 1 = .ok (.ifCond .eq 13, 3) := by decide +kernel
theorem d_BT_quietest_14 : decode prog_1_method_14_code 14 = .ok (.aload_n 0, 1) := by decide +kernel
theorem d_BT_quietest_15 : decode prog_1_method_14_code 15 = .ok (.invokevirtual 197, 3) := by decide +kernel
theorem d_BT_quietest_18 : decode prog_1_method_14_code 18 = .ok (.aload_n 0, 1) := by decide +kernel
theorem d_BT_quietest_22 : decode prog_1_method_14_code 22 = .ok (.aload_n 0, 1) := by decide +kernel
theorem d_BT_quietest_26 : decode prog_1_method_14_code 26 = .ok (.iconst 0, 1) := by decide +kernel
theorem d_BT_quietest_27 : decode prog_1_method_14_code 27 = .ok (.iconst 0, 1) := by decide +kernel
theorem d_BT_quietest_28 : decode prog_1_method_14_code 28 = .ok (.iconst 0, 1) := by decide +kernel
theorem d_BT_quietest_29 : decode prog_1_method_14_code 29 = .ok (.ldc 200, 2) := by decide +kernel
theorem d_BT_quietest_31 : decode prog_1_method_14_code 31 = .ok (.invokestatic 201, 3) := by decide +kernel
theorem d_BT_quietest_34 : decode prog_1_method_14_code 34 = .ok (.istore_n 2, 1) := by decide +kernel
theorem d_BT_quietest_35 : decode prog_1_method_14_code 35 = .ok (.iload_n 1, 1) := by decide +kernel
theorem d_BT_quietest_44 : decode prog_1_method_14_code 44 = .ok (.aload_n 0, 1) := by decide +kernel
theorem d_BT_quietest_48 : decode prog_1_method_14_code 48 = .ok (.iload_n 1, 1) := by decide +kernel
theorem d_BT_quietest_49 : decode prog_1_method_14_code 49 = .ok (.bipush 10, 2) := by decide +kernel
theorem d_BT_quietest_51 : decode prog_1_method_14_code 51 = .ok (.isub, 1) := by decide +kernel
theorem d_BT_quietest_53 : decode prog_1_method_14_code 53 = .ok (.ireturn, 1) := by decide +kernel
theorem d_BT_quietest_45 : decode prog_1_method_14_code 45 = .ok (.getfield 11, 3) := by decide +kernel
theorem d_BT_quietest_39 : decode prog_1_method_14_code 39 = .ok (.iload_n 2, 1) := by decide +kernel
theorem d_BT_quietest_40 : decode prog_1_method_14_code 40 = .ok (.ineg, 1) := by decide +kernel
theorem d_BT_quietest_41 : decode prog_1_method_14_code 41 = .ok (.goto 12, 3) := by decide +kernel
theorem d_BT_quietest_36 : decode prog_1_method_14_code 36 = .ok (.ifCond .ne 8, 3) := by decide +kernel
theorem d_BT_quietest_23 : decode prog_1_method_14_code 23 = .ok (.getfield 11, 3) := by decide +kernel
theorem d_BT_quietest_19 : decode prog_1_method_14_code 19 = .ok (.getfield 56, 3) := by decide +kernel
theorem d_BT_quietest_52 : decode prog_1_method_14_code 52 = .ok (.iaload, 1) := by decide +kernel
set_option maxRecDepth 10000 in
set_option maxHeartbeats 4000000 in
theorem w_BT_quietest {q : QT} {z : ZT} {a1 : Int32} {μ : Mm} {ν : Ml} (C : Ctx sdX q z prog_1_method_14_code "BesideTom" 3 23 (some (FieldType.int))) : R sdX q z 3 (φIm ν) (F_BT_quietest a1 μ) μ ν 0 [(0, .ref (q.2.2.1 0)), (1, .int a1)] [] := by
  unfold F_BT_quietest
  refine R_iload_n C 1 d_BT_quietest_0 rfl rfl ?_
  refine R_jn (fun K9 => R sdX q z 3 (φIm ν) (K9 ()) μ ν 14 [(0, .ref (q.2.2.1 0)), (1, .int a1)] []) ?_ (fun K9 hK9 => ?_)
  · skip
    refine R_aload_n C 0 d_BT_quietest_14 rfl rfl ?_
    refine R_bind (fun μ3 h4 => ?_)
    refine R_callV C xm_0 (xc_0 q _ _) rfl cf_BT_plansFromNow rfl ml_BT_197 im_BT_plansFromNow sl_BT_BT_plansFromNow_BT_plansFromNow (c_BT_plansFromNow (gk C) h4) (by decide) (by decide) rfl rfl (Nat.le_of_ble_eq_true rfl) d_BT_quietest_15 ?_
    refine R_aload_n C 0 d_BT_quietest_18 rfl rfl ?_
    refine gf_BT_asked C fl_BT_56 d_BT_quietest_19 ?_
    refine R_aload_n C 0 d_BT_quietest_22 rfl rfl ?_
    refine gf_BT_plan C fl_BT_11 d_BT_quietest_23 ?_
    refine R_iconst C d_BT_quietest_26 (v := 0) (by decide +kernel) ?_
    refine R_iconst C d_BT_quietest_27 (v := 0) (by decide +kernel) ?_
    refine R_iconst C d_BT_quietest_28 (v := 0) (by decide +kernel) ?_
    refine R_ldc C k_BT_200 d_BT_quietest_29 ?_
    refine R_bind (fun r_ h7 => ?_)
    obtain ⟨v5, μ6⟩ := r_
    refine R_callS C cf_BT_arrange ml_BT_201 sm_BT_arrange (c_BT_arrange (d := 8) (gk C) s60 h7) (by omega) (by decide) rfl rfl (Nat.le_of_ble_eq_true rfl) d_BT_quietest_31 ?_
    refine R_istore_n C (lv' := [(2, .int v5), (0, .ref (q.2.2.1 0)), (1, .int a1)]) d_BT_quietest_34 rfl (by decide) rfl ?_
    refine R_iload_n C 2 d_BT_quietest_35 rfl rfl ?_
    refine R_if_ne C d_BT_quietest_36 (tgt := 44) (by decide) ?_ ?_
    · skip
      refine R_aload_n C 1 d_BT_quietest_44 rfl rfl ?_
      refine gf_BT_plan C fl_BT_11 d_BT_quietest_45 ?_
      refine R_iload_n C 2 d_BT_quietest_48 rfl rfl ?_
      refine R_bipush C d_BT_quietest_49 (v := 10) (by decide +kernel) ?_
      refine R_isub C d_BT_quietest_51 ?_
      refine R_iald C xm_13 (xc_13 q _ _) d_BT_quietest_52 (fun v8 => ?_)
      exact R_iret C rfl d_BT_quietest_53
    · skip
      refine R_iload_n C 0 d_BT_quietest_39 rfl rfl ?_
      refine R_ineg C d_BT_quietest_40 ?_
      refine R_goto C d_BT_quietest_41 (tgt := 53) (by decide) ?_
      exact R_iret C rfl d_BT_quietest_53
  · skip
    refine R_if_eq C d_BT_quietest_1 (tgt := 14) (by decide) ?_ ?_
    · skip
      exact R_sub [0, 1] rfl (hK9)
    · skip
      refine R_aload_n C 0 d_BT_quietest_4 rfl rfl ?_
      refine R_iload_n C 1 d_BT_quietest_5 rfl rfl ?_
      refine R_bind (fun v1 h2 => ?_)
      refine R_callV C xm_0 (xc_0 q _ _) rfl cf_BT_isOfPupil rfl ml_BT_189 im_BT_isOfPupil sl_BT_BT_isOfPupil_BT_isOfPupil (c_BT_isOfPupil (gk C) h2) (by decide) (by decide) rfl rfl (Nat.le_of_ble_eq_true rfl) d_BT_quietest_6 ?_
      refine R_if_ne C d_BT_quietest_9 (tgt := 14) (by decide) ?_ ?_
      · skip
        exact R_sub [0, 1] rfl (hK9)
      · skip
        refine R_iconst C d_BT_quietest_12 (v := (-1)) (by decide +kernel) ?_
        exact R_iret C rfl d_BT_quietest_13
theorem c_BT_quietest {q : QT} (hg : GOk sdX q) {a1 : Int32} {μ : Mm} {ν : Ml} {o : Int32 × Mm} (ho : F_BT_quietest a1 μ = some o) : Ct sdX q y_BT_quietest prog_1_method_14_code 3 (some (FieldType.int)) 23 [.ref (q.2.2.1 0), .int a1] μ ν ((φIm ν) o).1 ((φIm ν) o).2.1 ((φIm ν) o).2.2 := Ct_of rfl hg (fun z C => w_BT_quietest C) (Nat.le_of_ble_eq_true rfl) ho
def F_BT_room (μ : Mm) : Option (Int32 × Mm) := (if (μ 1 2) < 6 then (F_Rooms_reads (μ 1 2) 40 0 0 μ).bind fun p_ => match p_ with | (v1, μ2) => (if v1 < 0 then lt_ (up2 μ2 40 4 (μ2 1 12)) fun μ4 => lt_ (up2 μ4 40 5 (μ4 1 13)) fun μ5 => (F_Rooms_keepsText μ5).bind fun p_ => match p_ with | (v6, μ7) => lt_ (up2 μ7 40 6 v6) fun μ9 => (F_Rooms_settles 40 0 (μ9 40 1) μ9).bind fun μ10 => some ((μ10 40 6), μ10) else (F_Rooms_forgetsText μ2).bind fun μ12 => some (((-10) - v1), μ12)) else some ((-4), μ))
theorem d_BT_room_0 : decode prog_1_method_9_code 0 = .ok (.aload_n 0, 1) := by decide +kernel
theorem d_BT_room_7 : decode prog_1_method_9_code 7 = .ok (.bipush 6, 2) := by decide +kernel
theorem d_BT_room_15 : decode prog_1_method_9_code 15 = .ok (.aload_n 0, 1) := by decide +kernel
theorem d_BT_room_19 : decode prog_1_method_9_code 19 = .ok (.aload_n 0, 1) := by decide +kernel
theorem d_BT_room_26 : decode prog_1_method_9_code 26 = .ok (.aload_n 0, 1) := by decide +kernel
theorem d_BT_room_30 : decode prog_1_method_9_code 30 = .ok (.iconst 0, 1) := by decide +kernel
theorem d_BT_room_31 : decode prog_1_method_9_code 31 = .ok (.iconst 0, 1) := by decide +kernel
theorem d_BT_room_32 : decode prog_1_method_9_code 32 = .ok (.invokevirtual 148, 3) := by decide +kernel
theorem d_BT_room_35 : decode prog_1_method_9_code 35 = .ok (.istore_n 1, 1) := by decide +kernel
theorem d_BT_room_36 : decode prog_1_method_9_code 36 = .ok (.iload_n 1, 1) := by decide +kernel
theorem d_BT_room_52 : decode prog_1_method_9_code 52 = .ok (.aload_n 0, 1) := by decide +kernel
theorem d_BT_room_56 : decode prog_1_method_9_code 56 = .ok (.aload_n 0, 1) := by decide +kernel
theorem d_BT_room_66 : decode prog_1_method_9_code 66 = .ok (.aload_n 0, 1) := by decide +kernel
theorem d_BT_room_70 : decode prog_1_method_9_code 70 = .ok (.aload_n 0, 1) := by decide +kernel
theorem d_BT_room_80 : decode prog_1_method_9_code 80 = .ok (.aload_n 0, 1) := by decide +kernel
theorem d_BT_room_84 : decode prog_1_method_9_code 84 = .ok (.aload_n 0, 1) := by decide +kernel
theorem d_BT_room_88 : decode prog_1_method_9_code 88 = .ok (.invokevirtual 163, 3) := by decide +kernel
theorem d_BT_room_94 : decode prog_1_method_9_code 94 = .ok (.aload_n 0, 1) := by decide +kernel
theorem d_BT_room_98 : decode prog_1_method_9_code 98 = .ok (.aload_n 0, 1) := by decide +kernel
theorem d_BT_room_102 : decode prog_1_method_9_code 102 = .ok (.iconst 0, 1) := by decide +kernel
theorem d_BT_room_103 : decode prog_1_method_9_code 103 = .ok (.aload_n 0, 1) := by decide +kernel
theorem d_BT_room_110 : decode prog_1_method_9_code 110 = .ok (.invokevirtual 88, 3) := by decide +kernel
theorem d_BT_room_113 : decode prog_1_method_9_code 113 = .ok (.aload_n 0, 1) := by decide +kernel
theorem d_BT_room_120 : decode prog_1_method_9_code 120 = .ok (.ireturn, 1) := by decide +kernel
theorem d_BT_room_117 : decode prog_1_method_9_code 117 = .ok (.getfield 167, 3) := by decide +kernel
theorem d_BT_room_114 : decode prog_1_method_9_code 114 = .ok (.getfield 52, 3) := by decide +kernel
theorem d_BT_room_107 : decode prog_1_method_9_code 107 = .ok (.getfield 80, 3) := by decide +kernel
theorem d_BT_room_104 : decode prog_1_method_9_code 104 = .ok (.getfield 52, 3) := by decide +kernel
theorem d_BT_room_99 : decode prog_1_method_9_code 99 = .ok (.getfield 52, 3) := by decide +kernel
theorem d_BT_room_95 : decode prog_1_method_9_code 95 = .ok (.getfield 65, 3) := by decide +kernel
theorem d_BT_room_85 : decode prog_1_method_9_code 85 = .ok (.getfield 65, 3) := by decide +kernel
theorem d_BT_room_81 : decode prog_1_method_9_code 81 = .ok (.getfield 52, 3) := by decide +kernel
theorem d_BT_room_74 : decode prog_1_method_9_code 74 = .ok (.getfield 159, 3) := by decide +kernel
theorem d_BT_room_71 : decode prog_1_method_9_code 71 = .ok (.getfield 65, 3) := by decide +kernel
theorem d_BT_room_67 : decode prog_1_method_9_code 67 = .ok (.getfield 52, 3) := by decide +kernel
theorem d_BT_room_60 : decode prog_1_method_9_code 60 = .ok (.getfield 155, 3) := by decide +kernel
theorem d_BT_room_57 : decode prog_1_method_9_code 57 = .ok (.getfield 65, 3) := by decide +kernel
theorem d_BT_room_53 : decode prog_1_method_9_code 53 = .ok (.getfield 52, 3) := by decide +kernel
theorem d_BT_room_40 : decode prog_1_method_9_code 40 = .ok (.aload_n 0, 1) := by decide +kernel
theorem d_BT_room_44 : decode prog_1_method_9_code 44 = .ok (.invokevirtual 152, 3) := by decide +kernel
theorem d_BT_room_47 : decode prog_1_method_9_code 47 = .ok (.bipush (-10), 2) := by decide +kernel
theorem d_BT_room_49 : decode prog_1_method_9_code 49 = .ok (.iload_n 1, 1) := by decide +kernel
theorem d_BT_room_50 : decode prog_1_method_9_code 50 = .ok (.isub, 1) := by decide +kernel
theorem d_BT_room_51 : decode prog_1_method_9_code 51 = .ok (.ireturn, 1) := by decide +kernel
theorem d_BT_room_41 : decode prog_1_method_9_code 41 = .ok (.getfield 65, 3) := by decide +kernel
theorem d_BT_room_37 : decode prog_1_method_9_code 37 = .ok (.ifCond .lt 15, 3) := by decide +kernel
theorem d_BT_room_27 : decode prog_1_method_9_code 27 = .ok (.getfield 52, 3) := by decide +kernel
theorem d_BT_room_23 : decode prog_1_method_9_code 23 = .ok (.getfield 147, 3) := by decide +kernel
theorem d_BT_room_20 : decode prog_1_method_9_code 20 = .ok (.getfield 65, 3) := by decide +kernel
theorem d_BT_room_16 : decode prog_1_method_9_code 16 = .ok (.getfield 65, 3) := by decide +kernel
theorem d_BT_room_12 : decode prog_1_method_9_code 12 = .ok (.bipush (-4), 2) := by decide +kernel
theorem d_BT_room_14 : decode prog_1_method_9_code 14 = .ok (.ireturn, 1) := by decide +kernel
theorem d_BT_room_9 : decode prog_1_method_9_code 9 = .ok (.if_icmp .lt 6, 3) := by decide +kernel
theorem d_BT_room_4 : decode prog_1_method_9_code 4 = .ok (.getfield 147, 3) := by decide +kernel
theorem d_BT_room_1 : decode prog_1_method_9_code 1 = .ok (.getfield 65, 3) := by decide +kernel
theorem d_BT_room_63 : decode prog_1_method_9_code 63 = .ok (.putfield 158, 3) := by decide +kernel
theorem d_BT_room_77 : decode prog_1_method_9_code 77 = .ok (.putfield 162, 3) := by decide +kernel
theorem d_BT_room_91 : decode prog_1_method_9_code 91 = .ok (.putfield 167, 3) := by decide +kernel
set_option maxRecDepth 10000 in
set_option maxHeartbeats 4000000 in
theorem w_BT_room {q : QT} {z : ZT} {μ : Mm} {ν : Ml} (C : Ctx sdX q z prog_1_method_9_code "BesideTom" 2 23 (some (FieldType.int))) : R sdX q z 2 (φIm ν) (F_BT_room μ) μ ν 0 [(0, .ref (q.2.2.1 0))] [] := by
  unfold F_BT_room
  refine R_aload_n C 0 d_BT_room_0 rfl rfl ?_
  refine gf_BT_rooms C fl_BT_65 d_BT_room_1 ?_
  refine gf_Rooms_many C fl_BT_147 d_BT_room_4 ?_
  refine R_bipush C d_BT_room_7 (v := 6) (by decide +kernel) ?_
  refine R_icmp_lt C d_BT_room_9 (tgt := 15) (by decide) ?_ ?_
  · skip
    refine R_aload_n C 0 d_BT_room_15 rfl rfl ?_
    refine gf_BT_rooms C fl_BT_65 d_BT_room_16 ?_
    refine R_aload_n C 0 d_BT_room_19 rfl rfl ?_
    refine gf_BT_rooms C fl_BT_65 d_BT_room_20 ?_
    refine gf_Rooms_many C fl_BT_147 d_BT_room_23 ?_
    refine R_aload_n C 0 d_BT_room_26 rfl rfl ?_
    refine gf_BT_now C fl_BT_52 d_BT_room_27 ?_
    refine R_iconst C d_BT_room_30 (v := 0) (by decide +kernel) ?_
    refine R_iconst C d_BT_room_31 (v := 0) (by decide +kernel) ?_
    refine R_bind (fun r_ h3 => ?_)
    obtain ⟨v1, μ2⟩ := r_
    refine R_callV C xm_1 (xc_1 q _ _) rfl cf_Rooms_reads rfl ml_BT_148 im_Rooms_reads sl_Rooms_Rooms_reads_Rooms_reads (c_Rooms_reads (gk C) s40 h3) (by decide) (by decide) rfl rfl (Nat.le_of_ble_eq_true rfl) d_BT_room_32 ?_
    refine R_istore_n C (lv' := [(1, .int v1), (0, .ref (q.2.2.1 0))]) d_BT_room_35 rfl (by decide) rfl ?_
    refine R_iload_n C 0 d_BT_room_36 rfl rfl ?_
    refine R_if_lt C d_BT_room_37 (tgt := 52) (by decide) ?_ ?_
    · skip
      refine R_aload_n C 1 d_BT_room_52 rfl rfl ?_
      refine gf_BT_now C fl_BT_52 d_BT_room_53 ?_
      refine R_aload_n C 1 d_BT_room_56 rfl rfl ?_
      refine gf_BT_rooms C fl_BT_65 d_BT_room_57 ?_
      refine gf_Rooms_wears C fl_BT_155 d_BT_room_60 ?_
      refine pf_Seat_wears C s40 fl_BT_158 d_BT_room_63 (fun μ4 => ?_)
      refine R_aload_n C 1 d_BT_room_66 rfl rfl ?_
      refine gf_BT_now C fl_BT_52 d_BT_room_67 ?_
      refine R_aload_n C 1 d_BT_room_70 rfl rfl ?_
      refine gf_BT_rooms C fl_BT_65 d_BT_room_71 ?_
      refine gf_Rooms_cost C fl_BT_159 d_BT_room_74 ?_
      refine pf_Seat_cost C s40 fl_BT_162 d_BT_room_77 (fun μ5 => ?_)
      refine R_aload_n C 1 d_BT_room_80 rfl rfl ?_
      refine gf_BT_now C fl_BT_52 d_BT_room_81 ?_
      refine R_aload_n C 1 d_BT_room_84 rfl rfl ?_
      refine gf_BT_rooms C fl_BT_65 d_BT_room_85 ?_
      refine R_bind (fun r_ h8 => ?_)
      obtain ⟨v6, μ7⟩ := r_
      refine R_callV C xm_1 (xc_1 q _ _) rfl cf_Rooms_keepsText rfl ml_BT_163 im_Rooms_keepsText sl_Rooms_Rooms_keepsText_Rooms_keepsText (c_Rooms_keepsText (gk C) h8) (by decide) (by decide) rfl rfl (Nat.le_of_ble_eq_true rfl) d_BT_room_88 ?_
      refine pf_Seat_held C s40 fl_BT_167 d_BT_room_91 (fun μ9 => ?_)
      refine R_aload_n C 1 d_BT_room_94 rfl rfl ?_
      refine gf_BT_rooms C fl_BT_65 d_BT_room_95 ?_
      refine R_aload_n C 1 d_BT_room_98 rfl rfl ?_
      refine gf_BT_now C fl_BT_52 d_BT_room_99 ?_
      refine R_iconst C d_BT_room_102 (v := 0) (by decide +kernel) ?_
      refine R_aload_n C 1 d_BT_room_103 rfl rfl ?_
      refine gf_BT_now C fl_BT_52 d_BT_room_104 ?_
      refine gf_Seat_many C s40 fl_BT_80 d_BT_room_107 ?_
      refine R_bind (fun μ10 h11 => ?_)
      refine R_callV C xm_1 (xc_1 q _ _) rfl cf_Rooms_settles rfl ml_BT_88 im_Rooms_settles sl_Rooms_Rooms_settles_Rooms_settles (c_Rooms_settles (gk C) s40 h11) (by decide) (by decide) rfl rfl (Nat.le_of_ble_eq_true rfl) d_BT_room_110 ?_
      refine R_aload_n C 1 d_BT_room_113 rfl rfl ?_
      refine gf_BT_now C fl_BT_52 d_BT_room_114 ?_
      refine gf_Seat_held C s40 fl_BT_167 d_BT_room_117 ?_
      exact R_iret C rfl d_BT_room_120
    · skip
      refine R_aload_n C 1 d_BT_room_40 rfl rfl ?_
      refine gf_BT_rooms C fl_BT_65 d_BT_room_41 ?_
      refine R_bind (fun μ12 h13 => ?_)
      refine R_callV C xm_1 (xc_1 q _ _) rfl cf_Rooms_forgetsText rfl ml_BT_152 im_Rooms_forgetsText sl_Rooms_Rooms_forgetsText_Rooms_forgetsText (c_Rooms_forgetsText (gk C) h13) (by decide) (by decide) rfl rfl (Nat.le_of_ble_eq_true rfl) d_BT_room_44 ?_
      refine R_bipush C d_BT_room_47 (v := (-10)) (by decide +kernel) ?_
      refine R_iload_n C 0 d_BT_room_49 rfl rfl ?_
      refine R_isub C d_BT_room_50 ?_
      exact R_iret C rfl d_BT_room_51
  · skip
    refine R_bipush C d_BT_room_12 (v := (-4)) (by decide +kernel) ?_
    exact R_iret C rfl d_BT_room_14
theorem c_BT_room {q : QT} (hg : GOk sdX q) {μ : Mm} {ν : Ml} {o : Int32 × Mm} (ho : F_BT_room μ = some o) : Ct sdX q y_BT_room prog_1_method_9_code 2 (some (FieldType.int)) 23 [.ref (q.2.2.1 0)] μ ν ((φIm ν) o).1 ((φIm ν) o).2.1 ((φIm ν) o).2.2 := Ct_of rfl hg (fun z C => w_BT_room C) (Nat.le_of_ble_eq_true rfl) ho
def F_BT_wisest (a1 : Int32) (μ : Mm) : Option (Int32 × Mm) := jn (α := Unit) (fun K9 => (if a1 = 0 then K9 () else (F_BT_isOfPupil a1 μ).bind fun v1 => (if v1 = 0 then some ((-1), μ) else K9 ()))) (fun (_ : Unit) => (F_BT_plansFromNow μ).bind fun μ3 => (F_BT_arrange 8 60 0 0 1 (-1000000000) μ3).bind fun p_ => match p_ with | (v5, μ6) => (if a1 = 0 then some (v5, μ6) else (rdI (μ6 13) 6 (a1 - 10)).bind fun v8 => some (v8, μ6)))
theorem d_BT_wisest_0 : decode prog_1_method_15_code 0 = .ok (.iload_n 1, 1) := by decide +kernel
theorem d_BT_wisest_4 : decode prog_1_method_15_code 4 = .ok (.aload_n 0, 1) := by decide +kernel
theorem d_BT_wisest_5 : decode prog_1_method_15_code 5 = .ok (.iload_n 1, 1) := by decide +kernel
theorem d_BT_wisest_6 : decode prog_1_method_15_code 6 = .ok (.invokevirtual 189, 3) := by decide +kernel
theorem d_BT_wisest_12 : decode prog_1_method_15_code 12 = .ok (.iconst (-1), 1) := by decide +kernel
theorem d_BT_wisest_13 : decode prog_1_method_15_code 13 = .ok (.ireturn, 1) := by decide +kernel
theorem d_BT_wisest_9 : decode prog_1_method_15_code 9 = .ok (.ifCond .ne 5, 3) := by decide +kernel
theorem d_BT_wisest_1 : decode prog_1_method_15_code 1 = .ok (.ifCond .eq 13, 3) := by decide +kernel
theorem d_BT_wisest_14 : decode prog_1_method_15_code 14 = .ok (.aload_n 0, 1) := by decide +kernel
theorem d_BT_wisest_15 : decode prog_1_method_15_code 15 = .ok (.invokevirtual 197, 3) := by decide +kernel
theorem d_BT_wisest_18 : decode prog_1_method_15_code 18 = .ok (.aload_n 0, 1) := by decide +kernel
theorem d_BT_wisest_22 : decode prog_1_method_15_code 22 = .ok (.aload_n 0, 1) := by decide +kernel
theorem d_BT_wisest_26 : decode prog_1_method_15_code 26 = .ok (.iconst 0, 1) := by decide +kernel
theorem d_BT_wisest_27 : decode prog_1_method_15_code 27 = .ok (.iconst 0, 1) := by decide +kernel
theorem d_BT_wisest_28 : decode prog_1_method_15_code 28 = .ok (.iconst 1, 1) := by decide +kernel
theorem d_BT_wisest_29 : decode prog_1_method_15_code 29 = .ok (.ldc 200, 2) := by decide +kernel
theorem d_BT_wisest_31 : decode prog_1_method_15_code 31 = .ok (.invokestatic 201, 3) := by decide +kernel
theorem d_BT_wisest_34 : decode prog_1_method_15_code 34 = .ok (.istore_n 2, 1) := by decide +kernel
theorem d_BT_wisest_35 : decode prog_1_method_15_code 35 = .ok (.iload_n 1, 1) := by decide +kernel
theorem d_BT_wisest_43 : decode prog_1_method_15_code 43 = .ok (.aload_n 0, 1) := by decide +kernel
theorem d_BT_wisest_47 : decode prog_1_method_15_code 47 = .ok (.iload_n 1, 1) := by decide +kernel
theorem d_BT_wisest_48 : decode prog_1_method_15_code 48 = .ok (.bipush 10, 2) := by decide +kernel
theorem d_BT_wisest_50 : decode prog_1_method_15_code 50 = .ok (.isub, 1) := by decide +kernel
theorem d_BT_wisest_52 : decode prog_1_method_15_code 52 = .ok (.ireturn, 1) := by decide +kernel
theorem d_BT_wisest_44 : decode prog_1_method_15_code 44 = .ok (.getfield 11, 3) := by decide +kernel
theorem d_BT_wisest_39 : decode prog_1_method_15_code 39 = .ok (.iload_n 2, 1) := by decide +kernel
theorem d_BT_wisest_40 : decode prog_1_method_15_code 40 = .ok (.goto 12, 3) := by decide +kernel
theorem d_BT_wisest_36 : decode prog_1_method_15_code 36 = .ok (.ifCond .ne 7, 3) := by decide +kernel
theorem d_BT_wisest_23 : decode prog_1_method_15_code 23 = .ok (.getfield 11, 3) := by decide +kernel
theorem d_BT_wisest_19 : decode prog_1_method_15_code 19 = .ok (.getfield 56, 3) := by decide +kernel
theorem d_BT_wisest_51 : decode prog_1_method_15_code 51 = .ok (.iaload, 1) := by decide +kernel
set_option maxRecDepth 10000 in
set_option maxHeartbeats 4000000 in
theorem w_BT_wisest {q : QT} {z : ZT} {a1 : Int32} {μ : Mm} {ν : Ml} (C : Ctx sdX q z prog_1_method_15_code "BesideTom" 3 23 (some (FieldType.int))) : R sdX q z 3 (φIm ν) (F_BT_wisest a1 μ) μ ν 0 [(0, .ref (q.2.2.1 0)), (1, .int a1)] [] := by
  unfold F_BT_wisest
  refine R_iload_n C 1 d_BT_wisest_0 rfl rfl ?_
  refine R_jn (fun K9 => R sdX q z 3 (φIm ν) (K9 ()) μ ν 14 [(0, .ref (q.2.2.1 0)), (1, .int a1)] []) ?_ (fun K9 hK9 => ?_)
  · skip
    refine R_aload_n C 0 d_BT_wisest_14 rfl rfl ?_
    refine R_bind (fun μ3 h4 => ?_)
    refine R_callV C xm_0 (xc_0 q _ _) rfl cf_BT_plansFromNow rfl ml_BT_197 im_BT_plansFromNow sl_BT_BT_plansFromNow_BT_plansFromNow (c_BT_plansFromNow (gk C) h4) (by decide) (by decide) rfl rfl (Nat.le_of_ble_eq_true rfl) d_BT_wisest_15 ?_
    refine R_aload_n C 0 d_BT_wisest_18 rfl rfl ?_
    refine gf_BT_asked C fl_BT_56 d_BT_wisest_19 ?_
    refine R_aload_n C 0 d_BT_wisest_22 rfl rfl ?_
    refine gf_BT_plan C fl_BT_11 d_BT_wisest_23 ?_
    refine R_iconst C d_BT_wisest_26 (v := 0) (by decide +kernel) ?_
    refine R_iconst C d_BT_wisest_27 (v := 0) (by decide +kernel) ?_
    refine R_iconst C d_BT_wisest_28 (v := 1) (by decide +kernel) ?_
    refine R_ldc C k_BT_200 d_BT_wisest_29 ?_
    refine R_bind (fun r_ h7 => ?_)
    obtain ⟨v5, μ6⟩ := r_
    refine R_callS C cf_BT_arrange ml_BT_201 sm_BT_arrange (c_BT_arrange (d := 8) (gk C) s60 h7) (by omega) (by decide) rfl rfl (Nat.le_of_ble_eq_true rfl) d_BT_wisest_31 ?_
    refine R_istore_n C (lv' := [(2, .int v5), (0, .ref (q.2.2.1 0)), (1, .int a1)]) d_BT_wisest_34 rfl (by decide) rfl ?_
    refine R_iload_n C 2 d_BT_wisest_35 rfl rfl ?_
    refine R_if_ne C d_BT_wisest_36 (tgt := 43) (by decide) ?_ ?_
    · skip
      refine R_aload_n C 1 d_BT_wisest_43 rfl rfl ?_
      refine gf_BT_plan C fl_BT_11 d_BT_wisest_44 ?_
      refine R_iload_n C 2 d_BT_wisest_47 rfl rfl ?_
      refine R_bipush C d_BT_wisest_48 (v := 10) (by decide +kernel) ?_
      refine R_isub C d_BT_wisest_50 ?_
      refine R_iald C xm_13 (xc_13 q _ _) d_BT_wisest_51 (fun v8 => ?_)
      exact R_iret C rfl d_BT_wisest_52
    · skip
      refine R_iload_n C 0 d_BT_wisest_39 rfl rfl ?_
      refine R_goto C d_BT_wisest_40 (tgt := 52) (by decide) ?_
      exact R_iret C rfl d_BT_wisest_52
  · skip
    refine R_if_eq C d_BT_wisest_1 (tgt := 14) (by decide) ?_ ?_
    · skip
      exact R_sub [0, 1] rfl (hK9)
    · skip
      refine R_aload_n C 0 d_BT_wisest_4 rfl rfl ?_
      refine R_iload_n C 1 d_BT_wisest_5 rfl rfl ?_
      refine R_bind (fun v1 h2 => ?_)
      refine R_callV C xm_0 (xc_0 q _ _) rfl cf_BT_isOfPupil rfl ml_BT_189 im_BT_isOfPupil sl_BT_BT_isOfPupil_BT_isOfPupil (c_BT_isOfPupil (gk C) h2) (by decide) (by decide) rfl rfl (Nat.le_of_ble_eq_true rfl) d_BT_wisest_6 ?_
      refine R_if_ne C d_BT_wisest_9 (tgt := 14) (by decide) ?_ ?_
      · skip
        exact R_sub [0, 1] rfl (hK9)
      · skip
        refine R_iconst C d_BT_wisest_12 (v := (-1)) (by decide +kernel) ?_
        exact R_iret C rfl d_BT_wisest_13
theorem c_BT_wisest {q : QT} (hg : GOk sdX q) {a1 : Int32} {μ : Mm} {ν : Ml} {o : Int32 × Mm} (ho : F_BT_wisest a1 μ = some o) : Ct sdX q y_BT_wisest prog_1_method_15_code 3 (some (FieldType.int)) 23 [.ref (q.2.2.1 0), .int a1] μ ν ((φIm ν) o).1 ((φIm ν) o).2.1 ((φIm ν) o).2.2 := Ct_of rfl hg (fun z C => w_BT_wisest C) (Nat.le_of_ble_eq_true rfl) ho
