def F_M_room (μ : Mm) : Option (Int32 × Mm) := (if (μ 0 9) = 6 then some ((-4), μ) else (F_M_goesText (μ 0 9) μ).bind fun p_ => match p_ with | (v1, μ2) => lt_ (up2 μ2 0 11 0) fun μ4 => (if v1 = 0 then some (((-10) - (μ4 0 12)), μ4) else lt_ (up2 μ4 0 10 (μ4 0 9)) fun μ5 => lt_ (up2 μ5 0 9 ((μ5 0 9) + 1)) fun μ6 => some ((μ6 0 10), μ6)))
theorem d_M_room_0 : decode prog_14_method_36_code 0 = .ok (.aload_n 0, 1) := by decide +kernel
theorem d_M_room_4 : decode prog_14_method_36_code 4 = .ok (.bipush 6, 2) := by decide +kernel
theorem d_M_room_12 : decode prog_14_method_36_code 12 = .ok (.aload_n 0, 1) := by decide +kernel
theorem d_M_room_13 : decode prog_14_method_36_code 13 = .ok (.aload_n 0, 1) := by decide +kernel
theorem d_M_room_17 : decode prog_14_method_36_code 17 = .ok (.invokevirtual 299, 3) := by decide +kernel
theorem d_M_room_20 : decode prog_14_method_36_code 20 = .ok (.istore_n 1, 1) := by decide +kernel
theorem d_M_room_21 : decode prog_14_method_36_code 21 = .ok (.aload_n 0, 1) := by decide +kernel
theorem d_M_room_22 : decode prog_14_method_36_code 22 = .ok (.iconst 0, 1) := by decide +kernel
theorem d_M_room_26 : decode prog_14_method_36_code 26 = .ok (.iload_n 1, 1) := by decide +kernel
theorem d_M_room_38 : decode prog_14_method_36_code 38 = .ok (.aload_n 0, 1) := by decide +kernel
theorem d_M_room_39 : decode prog_14_method_36_code 39 = .ok (.aload_n 0, 1) := by decide +kernel
theorem d_M_room_46 : decode prog_14_method_36_code 46 = .ok (.aload_n 0, 1) := by decide +kernel
theorem d_M_room_47 : decode prog_14_method_36_code 47 = .ok (.dup, 1) := by decide +kernel
theorem d_M_room_51 : decode prog_14_method_36_code 51 = .ok (.iconst 1, 1) := by decide +kernel
theorem d_M_room_52 : decode prog_14_method_36_code 52 = .ok (.iadd, 1) := by decide +kernel
theorem d_M_room_56 : decode prog_14_method_36_code 56 = .ok (.aload_n 0, 1) := by decide +kernel
theorem d_M_room_60 : decode prog_14_method_36_code 60 = .ok (.ireturn, 1) := by decide +kernel
theorem d_M_room_57 : decode prog_14_method_36_code 57 = .ok (.getfield 41, 3) := by decide +kernel
theorem d_M_room_48 : decode prog_14_method_36_code 48 = .ok (.getfield 38, 3) := by decide +kernel
theorem d_M_room_40 : decode prog_14_method_36_code 40 = .ok (.getfield 38, 3) := by decide +kernel
theorem d_M_room_30 : decode prog_14_method_36_code 30 = .ok (.bipush (-10), 2) := by decide +kernel
theorem d_M_room_32 : decode prog_14_method_36_code 32 = .ok (.aload_n 0, 1) := by decide +kernel
theorem d_M_room_36 : decode prog_14_method_36_code 36 = .ok (.isub, 1) := by decide +kernel
theorem d_M_room_37 : decode prog_14_method_36_code 37 = .ok (.ireturn, 1) := by decide +kernel
theorem d_M_room_33 : decode prog_14_method_36_code 33 = .ok (.getfield 47, 3) := by decide +kernel
theorem d_M_room_27 : decode prog_14_method_36_code 27 = .ok (.ifCond .ne 11, 3) := by decide +kernel
theorem d_M_room_14 : decode prog_14_method_36_code 14 = .ok (.getfield 38, 3) := by decide +kernel
theorem d_M_room_9 : decode prog_14_method_36_code 9 = .ok (.bipush (-4), 2) := by decide +kernel
theorem d_M_room_11 : decode prog_14_method_36_code 11 = .ok (.ireturn, 1) := by decide +kernel
theorem d_M_room_6 : decode prog_14_method_36_code 6 = .ok (.if_icmp .ne 6, 3) := by decide +kernel
theorem d_M_room_1 : decode prog_14_method_36_code 1 = .ok (.getfield 38, 3) := by decide +kernel
theorem d_M_room_23 : decode prog_14_method_36_code 23 = .ok (.putfield 44, 3) := by decide +kernel
theorem d_M_room_43 : decode prog_14_method_36_code 43 = .ok (.putfield 41, 3) := by decide +kernel
theorem d_M_room_53 : decode prog_14_method_36_code 53 = .ok (.putfield 38, 3) := by decide +kernel
set_option maxRecDepth 10000 in
set_option maxHeartbeats 4000000 in
theorem w_M_room {q : QT} {z : ZT} {μ : Mm} {ν : Ml} (C : Ctx sdM q z prog_14_method_36_code "BesideTomModel" 2 7 (some (FieldType.int))) : R sdM q z 2 (φIm ν) (F_M_room μ) μ ν 0 [(0, .ref (q.2.2.1 0))] [] := by
  unfold F_M_room
  refine R_aload_n C 0 d_M_room_0 rfl rfl ?_
  refine gf_M_rooms C fl_M_38 d_M_room_1 ?_
  refine R_bipush C d_M_room_4 (v := 6) (by decide +kernel) ?_
  refine R_icmp_ne C d_M_room_6 (tgt := 12) (by decide) ?_ ?_
  · skip
    refine R_aload_n C 0 d_M_room_12 rfl rfl ?_
    refine R_aload_n C 0 d_M_room_13 rfl rfl ?_
    refine gf_M_rooms C fl_M_38 d_M_room_14 ?_
    refine R_bind (fun r_ h3 => ?_)
    obtain ⟨v1, μ2⟩ := r_
    refine R_callV C mm_0 (mc_0 q _ _) rfl cf_M_goesText rfl ml_M_299 im_M_goesText sl_M_M_goesText_M_goesText (c_M_goesText (gk C) h3) (by decide) (by decide) rfl rfl (Nat.le_of_ble_eq_true rfl) d_M_room_17 ?_
    refine R_istore_n C (lv' := [(1, .int v1), (0, .ref (q.2.2.1 0))]) d_M_room_20 rfl (by decide) rfl ?_
    refine R_aload_n C 1 d_M_room_21 rfl rfl ?_
    refine R_iconst C d_M_room_22 (v := 0) (by decide +kernel) ?_
    refine pf_M_fed C fl_M_44 d_M_room_23 (fun μ4 => ?_)
    refine R_iload_n C 0 d_M_room_26 rfl rfl ?_
    refine R_if_ne C d_M_room_27 (tgt := 38) (by decide) ?_ ?_
    · skip
      refine R_aload_n C 1 d_M_room_38 rfl rfl ?_
      refine R_aload_n C 1 d_M_room_39 rfl rfl ?_
      refine gf_M_rooms C fl_M_38 d_M_room_40 ?_
      refine pf_M_the C fl_M_41 d_M_room_43 (fun μ5 => ?_)
      refine R_aload_n C 1 d_M_room_46 rfl rfl ?_
      refine R_dup C d_M_room_47 rfl ?_
      refine gf_M_rooms C fl_M_38 d_M_room_48 ?_
      refine R_iconst C d_M_room_51 (v := 1) (by decide +kernel) ?_
      refine R_iadd C d_M_room_52 ?_
      refine pf_M_rooms C fl_M_38 d_M_room_53 (fun μ6 => ?_)
      refine R_aload_n C 1 d_M_room_56 rfl rfl ?_
      refine gf_M_the C fl_M_41 d_M_room_57 ?_
      exact R_iret C rfl d_M_room_60
    · skip
      refine R_bipush C d_M_room_30 (v := (-10)) (by decide +kernel) ?_
      refine R_aload_n C 1 d_M_room_32 rfl rfl ?_
      refine gf_M_at C fl_M_47 d_M_room_33 ?_
      refine R_isub C d_M_room_36 ?_
      exact R_iret C rfl d_M_room_37
  · skip
    refine R_bipush C d_M_room_9 (v := (-4)) (by decide +kernel) ?_
    exact R_iret C rfl d_M_room_11
theorem c_M_room {q : QT} (hg : GOk sdM q) {μ : Mm} {ν : Ml} {o : Int32 × Mm} (ho : F_M_room μ = some o) : Ct sdM q y_M_room prog_14_method_36_code 2 (some (FieldType.int)) 7 [.ref (q.2.2.1 0)] μ ν ((φIm ν) o).1 ((φIm ν) o).2.1 ((φIm ν) o).2.2 := Ct_of rfl hg (fun z C => w_M_room C) (Nat.le_of_ble_eq_true rfl) ho
def L_M_seat_14 (f5 : Int32) (k : Int32 → Mm → Option (Int32 × Mm)) : Nat → Int32 → Int32 → Mm → Option (Int32 × Mm)
  | 0, _, _, _ => none
  | n + 1, s3, s4, μ6 => (if 6 ≤ s4 then k s3 μ6 else (F_M_noiseIfMoved f5 s4 μ6).bind fun p_ => match p_ with | (v7, μ8) => (F_M_noiseIfMoved f5 s3 μ8).bind fun p_ => match p_ with | (v10, μ11) => jn (α := Int32) (fun K14 => (if v10 ≤ v7 then K14 s3 else K14 s4)) (fun (j13 : Int32) => L_M_seat_14 f5 k n j13 (s4 + 1) μ11))
def F_M_seat (a1 : Int32) (μ : Mm) : Option (Int32 × Mm) := (F_M_isPupil a1 μ).bind fun v1 => (if v1 = 0 then some ((-1), μ) else L_M_seat_14 a1 (fun (x15 : Int32) (μ16 : Mm) => some (x15, μ16)) fu 0 1 μ)
theorem d_M_seat_0 : decode prog_14_method_68_code 0 = .ok (.aload_n 0, 1) := by decide +kernel
theorem d_M_seat_1 : decode prog_14_method_68_code 1 = .ok (.iload_n 1, 1) := by decide +kernel
theorem d_M_seat_2 : decode prog_14_method_68_code 2 = .ok (.invokevirtual 233, 3) := by decide +kernel
theorem d_M_seat_10 : decode prog_14_method_68_code 10 = .ok (.iconst 0, 1) := by decide +kernel
theorem d_M_seat_11 : decode prog_14_method_68_code 11 = .ok (.istore_n 2, 1) := by decide +kernel
theorem d_M_seat_12 : decode prog_14_method_68_code 12 = .ok (.iconst 1, 1) := by decide +kernel
theorem d_M_seat_13 : decode prog_14_method_68_code 13 = .ok (.istore_n 3, 1) := by decide +kernel
theorem d_M_seat_14 : decode prog_14_method_68_code 14 = .ok (.iload_n 3, 1) := by decide +kernel
theorem d_M_seat_15 : decode prog_14_method_68_code 15 = .ok (.bipush 6, 2) := by decide +kernel
theorem d_M_seat_20 : decode prog_14_method_68_code 20 = .ok (.aload_n 0, 1) := by decide +kernel
theorem d_M_seat_21 : decode prog_14_method_68_code 21 = .ok (.iload_n 1, 1) := by decide +kernel
theorem d_M_seat_22 : decode prog_14_method_68_code 22 = .ok (.iload_n 3, 1) := by decide +kernel
theorem d_M_seat_23 : decode prog_14_method_68_code 23 = .ok (.invokevirtual 387, 3) := by decide +kernel
theorem d_M_seat_26 : decode prog_14_method_68_code 26 = .ok (.aload_n 0, 1) := by decide +kernel
theorem d_M_seat_27 : decode prog_14_method_68_code 27 = .ok (.iload_n 1, 1) := by decide +kernel
theorem d_M_seat_28 : decode prog_14_method_68_code 28 = .ok (.iload_n 2, 1) := by decide +kernel
theorem d_M_seat_29 : decode prog_14_method_68_code 29 = .ok (.invokevirtual 387, 3) := by decide +kernel
theorem d_M_seat_35 : decode prog_14_method_68_code 35 = .ok (.iload_n 3, 1) := by decide +kernel
theorem d_M_seat_36 : decode prog_14_method_68_code 36 = .ok (.istore_n 2, 1) := by decide +kernel
theorem d_M_seat_32 : decode prog_14_method_68_code 32 = .ok (.if_icmp .ge 5, 3) := by decide +kernel
theorem d_M_seat_37 : decode prog_14_method_68_code 37 = .ok (.iinc 3 1, 3) := by decide +kernel
theorem d_M_seat_40 : decode prog_14_method_68_code 40 = .ok (.goto (-26), 3) := by decide +kernel
theorem d_M_seat_17 : decode prog_14_method_68_code 17 = .ok (.if_icmp .ge 26, 3) := by decide +kernel
set_option maxRecDepth 10000 in
set_option maxHeartbeats 4000000 in
theorem W_M_seat_14 {q : QT} {z : ZT} {ν : Ml} {f5 : Int32} {k : Int32 → Mm → Option (Int32 × Mm)} (C : Ctx sdM q z prog_14_method_68_code "BesideTomModel" 4 7 (some (FieldType.int))) (hk : ∀ (e0_ : Int32) (me_ : Mm), R sdM q z 4 (φIm ν) (k e0_ me_) me_ ν 43 [(2, .int e0_)] []) : ∀ (n : Nat) (s3 : Int32) (s4 : Int32) (μ6 : Mm), R sdM q z 4 (φIm ν) (L_M_seat_14 f5 k n s3 s4 μ6) μ6 ν 14 [(2, .int s3), (3, .int s4), (0, .ref (q.2.2.1 0)), (1, .int f5)] [] := by
  intro n
  induction n with
  | zero =>
    intros
    exact R_none
  | succ n ih =>
    intro s3 s4 μ6
    rw [L_M_seat_14]
    refine R_iload_n C 1 d_M_seat_14 rfl rfl ?_
    refine R_bipush C d_M_seat_15 (v := 6) (by decide +kernel) ?_
    refine R_icmp_ge C d_M_seat_17 (tgt := 43) (by decide) ?_ ?_
    · skip
      exact R_sub [0] rfl (hk s3 μ6)
    · skip
      refine R_aload_n C 2 d_M_seat_20 rfl rfl ?_
      refine R_iload_n C 3 d_M_seat_21 rfl rfl ?_
      refine R_iload_n C 1 d_M_seat_22 rfl rfl ?_
      refine R_bind (fun r_ h9 => ?_)
      obtain ⟨v7, μ8⟩ := r_
      refine R_callV C mm_0 (mc_0 q _ _) rfl cf_M_noiseIfMoved rfl ml_M_387 im_M_noiseIfMoved sl_M_M_noiseIfMoved_M_noiseIfMoved (c_M_noiseIfMoved (gk C) h9) (by decide) (by decide) rfl rfl (Nat.le_of_ble_eq_true rfl) d_M_seat_23 ?_
      refine R_aload_n C 2 d_M_seat_26 rfl rfl ?_
      refine R_iload_n C 3 d_M_seat_27 rfl rfl ?_
      refine R_iload_n C 0 d_M_seat_28 rfl rfl ?_
      refine R_bind (fun r_ h12 => ?_)
      obtain ⟨v10, μ11⟩ := r_
      refine R_callV C mm_0 (mc_0 q _ _) rfl cf_M_noiseIfMoved rfl ml_M_387 im_M_noiseIfMoved sl_M_M_noiseIfMoved_M_noiseIfMoved (c_M_noiseIfMoved (gk C) h12) (by decide) (by decide) rfl rfl (Nat.le_of_ble_eq_true rfl) d_M_seat_29 ?_
      refine R_jn (fun K14 => ∀ (j13 : Int32), R sdM q z 4 (φIm ν) (K14 j13) μ11 ν 37 [(0, .ref (q.2.2.1 0)), (1, .int f5), (2, .int j13), (3, .int s4)] []) ?_ (fun K14 hK14 => ?_)
      · intro j13
        refine R_iinc C 3 d_M_seat_37 rfl (iinc_v _ (v := 1) (by decide +kernel)) (lv' := [(3, .int (s4 + 1)), (0, .ref (q.2.2.1 0)), (1, .int f5), (2, .int j13)]) (by decide) rfl ?_
        refine R_goto C d_M_seat_40 (tgt := 14) (by decide) ?_
        exact R_sub [3, 0, 1, 2] rfl (ih j13 (s4 + 1) μ11)
      · skip
        refine R_icmp_ge C d_M_seat_32 (tgt := 37) (by decide) ?_ ?_
        · skip
          exact R_sub [2, 3, 0, 1] rfl (hK14 s3)
        · skip
          refine R_iload_n C 1 d_M_seat_35 rfl rfl ?_
          refine R_istore_n C (lv' := [(2, .int s4), (3, .int s4), (0, .ref (q.2.2.1 0)), (1, .int f5)]) d_M_seat_36 rfl (by decide) rfl ?_
          exact R_sub [2, 3, 0, 1] rfl (hK14 s4)
theorem d_M_seat_43 : decode prog_14_method_68_code 43 = .ok (.iload_n 2, 1) := by decide +kernel
theorem d_M_seat_44 : decode prog_14_method_68_code 44 = .ok (.ireturn, 1) := by decide +kernel
theorem d_M_seat_8 : decode prog_14_method_68_code 8 = .ok (.iconst (-1), 1) := by decide +kernel
theorem d_M_seat_9 : decode prog_14_method_68_code 9 = .ok (.ireturn, 1) := by decide +kernel
theorem d_M_seat_5 : decode prog_14_method_68_code 5 = .ok (.ifCond .ne 5, 3) := by decide +kernel
set_option maxRecDepth 10000 in
set_option maxHeartbeats 4000000 in
theorem w_M_seat {q : QT} {z : ZT} {a1 : Int32} {μ : Mm} {ν : Ml} (C : Ctx sdM q z prog_14_method_68_code "BesideTomModel" 4 7 (some (FieldType.int))) : R sdM q z 4 (φIm ν) (F_M_seat a1 μ) μ ν 0 [(0, .ref (q.2.2.1 0)), (1, .int a1)] [] := by
  unfold F_M_seat
  refine R_aload_n C 0 d_M_seat_0 rfl rfl ?_
  refine R_iload_n C 1 d_M_seat_1 rfl rfl ?_
  refine R_bind (fun v1 h2 => ?_)
  refine R_callV C mm_0 (mc_0 q _ _) rfl cf_M_isPupil rfl ml_M_233 im_M_isPupil sl_M_M_isPupil_M_isPupil (c_M_isPupil (gk C) h2) (by decide) (by decide) rfl rfl (Nat.le_of_ble_eq_true rfl) d_M_seat_2 ?_
  refine R_if_ne C d_M_seat_5 (tgt := 10) (by decide) ?_ ?_
  · skip
    refine R_iconst C d_M_seat_10 (v := 0) (by decide +kernel) ?_
    refine R_istore_n C (lv' := [(2, .int 0), (0, .ref (q.2.2.1 0)), (1, .int a1)]) d_M_seat_11 rfl (by decide) rfl ?_
    refine R_iconst C d_M_seat_12 (v := 1) (by decide +kernel) ?_
    refine R_istore_n C (lv' := [(3, .int 1), (2, .int 0), (0, .ref (q.2.2.1 0)), (1, .int a1)]) d_M_seat_13 rfl (by decide) rfl ?_
    refine R_sub [1, 0, 2, 3] rfl ?_
    refine W_M_seat_14 C ?_ fu _ _ _
    intro x15 μ16
    refine R_iload_n C 0 d_M_seat_43 rfl rfl ?_
    exact R_iret C rfl d_M_seat_44
  · skip
    refine R_iconst C d_M_seat_8 (v := (-1)) (by decide +kernel) ?_
    exact R_iret C rfl d_M_seat_9
theorem c_M_seat {q : QT} (hg : GOk sdM q) {a1 : Int32} {μ : Mm} {ν : Ml} {o : Int32 × Mm} (ho : F_M_seat a1 μ = some o) : Ct sdM q y_M_seat prog_14_method_68_code 4 (some (FieldType.int)) 7 [.ref (q.2.2.1 0), .int a1] μ ν ((φIm ν) o).1 ((φIm ν) o).2.1 ((φIm ν) o).2.2 := Ct_of rfl hg (fun z C => w_M_seat C) (Nat.le_of_ble_eq_true rfl) ho
def F_M_tellsAct (a1 : Int32) (a2 : Int32) (μ : Mm) : Option (Int32 × Mm) := (rdI (μ 4) 6 a1).bind fun v1 => (if v1 = 3 then (F_M_body 40 μ).bind fun μ2 => (F_M_pupilTells a1 a2 μ2).bind fun p_ => match p_ with | (v4, μ5) => (F_M_chatsAct a1 1 μ5).bind fun p_ => match p_ with | (v7, μ8) => some ((v4 + v7), μ8) else if v1 = 4 then (F_M_pupilTells a1 a2 μ).bind fun p_ => match p_ with | (v10, μ11) => some (v10, μ11) else if v1 = 5 then (F_M_body 60 μ).bind fun μ13 => (F_M_pupilTells a1 (a2 - a1) μ13).bind fun p_ => match p_ with | (v15, μ16) => some (v15, μ16) else if v1 = 6 then (F_M_body 40 μ).bind fun μ18 => (F_M_pupilTells a1 a2 μ18).bind fun p_ => match p_ with | (v20, μ21) => (F_M_chatsAct a1 1 μ21).bind fun p_ => match p_ with | (v23, μ24) => some ((v20 + v23), μ24) else (F_M_pupilTells a1 a2 μ).bind fun p_ => match p_ with | (v26, μ27) => some (v26, μ27))
theorem d_M_tellsAct_0 : decode prog_14_method_99_code 0 = .ok (.aload_n 0, 1) := by decide +kernel
theorem d_M_tellsAct_4 : decode prog_14_method_99_code 4 = .ok (.iload_n 1, 1) := by decide +kernel
theorem d_M_tellsAct_6 : decode prog_14_method_99_code 6 = .ok (.tableswitch 67 3 6 #[30, 67, 52, 30], 30) := by decide +kernel
theorem d_M_tellsAct_36 : decode prog_14_method_99_code 36 = .ok (.aload_n 0, 1) := by decide +kernel
theorem d_M_tellsAct_37 : decode prog_14_method_99_code 37 = .ok (.bipush 40, 2) := by decide +kernel
theorem d_M_tellsAct_39 : decode prog_14_method_99_code 39 = .ok (.invokevirtual 423, 3) := by decide +kernel
theorem d_M_tellsAct_42 : decode prog_14_method_99_code 42 = .ok (.aload_n 0, 1) := by decide +kernel
theorem d_M_tellsAct_43 : decode prog_14_method_99_code 43 = .ok (.iload_n 1, 1) := by decide +kernel
theorem d_M_tellsAct_44 : decode prog_14_method_99_code 44 = .ok (.iload_n 2, 1) := by decide +kernel
theorem d_M_tellsAct_45 : decode prog_14_method_99_code 45 = .ok (.invokevirtual 441, 3) := by decide +kernel
theorem d_M_tellsAct_48 : decode prog_14_method_99_code 48 = .ok (.istore_n 3, 1) := by decide +kernel
theorem d_M_tellsAct_49 : decode prog_14_method_99_code 49 = .ok (.iload_n 3, 1) := by decide +kernel
theorem d_M_tellsAct_50 : decode prog_14_method_99_code 50 = .ok (.aload_n 0, 1) := by decide +kernel
theorem d_M_tellsAct_51 : decode prog_14_method_99_code 51 = .ok (.iload_n 1, 1) := by decide +kernel
theorem d_M_tellsAct_52 : decode prog_14_method_99_code 52 = .ok (.iconst 1, 1) := by decide +kernel
theorem d_M_tellsAct_53 : decode prog_14_method_99_code 53 = .ok (.invokevirtual 438, 3) := by decide +kernel
theorem d_M_tellsAct_56 : decode prog_14_method_99_code 56 = .ok (.iadd, 1) := by decide +kernel
theorem d_M_tellsAct_57 : decode prog_14_method_99_code 57 = .ok (.ireturn, 1) := by decide +kernel
theorem d_M_tellsAct_73 : decode prog_14_method_99_code 73 = .ok (.aload_n 0, 1) := by decide +kernel
theorem d_M_tellsAct_74 : decode prog_14_method_99_code 74 = .ok (.iload_n 1, 1) := by decide +kernel
theorem d_M_tellsAct_75 : decode prog_14_method_99_code 75 = .ok (.iload_n 2, 1) := by decide +kernel
theorem d_M_tellsAct_76 : decode prog_14_method_99_code 76 = .ok (.invokevirtual 441, 3) := by decide +kernel
theorem d_M_tellsAct_79 : decode prog_14_method_99_code 79 = .ok (.ireturn, 1) := by decide +kernel
theorem d_M_tellsAct_58 : decode prog_14_method_99_code 58 = .ok (.aload_n 0, 1) := by decide +kernel
theorem d_M_tellsAct_59 : decode prog_14_method_99_code 59 = .ok (.bipush 60, 2) := by decide +kernel
theorem d_M_tellsAct_61 : decode prog_14_method_99_code 61 = .ok (.invokevirtual 423, 3) := by decide +kernel
theorem d_M_tellsAct_64 : decode prog_14_method_99_code 64 = .ok (.aload_n 0, 1) := by decide +kernel
theorem d_M_tellsAct_65 : decode prog_14_method_99_code 65 = .ok (.iload_n 1, 1) := by decide +kernel
theorem d_M_tellsAct_66 : decode prog_14_method_99_code 66 = .ok (.iload_n 2, 1) := by decide +kernel
theorem d_M_tellsAct_67 : decode prog_14_method_99_code 67 = .ok (.iload_n 1, 1) := by decide +kernel
theorem d_M_tellsAct_68 : decode prog_14_method_99_code 68 = .ok (.isub, 1) := by decide +kernel
theorem d_M_tellsAct_69 : decode prog_14_method_99_code 69 = .ok (.invokevirtual 441, 3) := by decide +kernel
theorem d_M_tellsAct_72 : decode prog_14_method_99_code 72 = .ok (.ireturn, 1) := by decide +kernel
theorem d_M_tellsAct_1 : decode prog_14_method_99_code 1 = .ok (.getfield 22, 3) := by decide +kernel
theorem d_M_tellsAct_5 : decode prog_14_method_99_code 5 = .ok (.iaload, 1) := by decide +kernel
set_option maxRecDepth 10000 in
set_option maxHeartbeats 4000000 in
theorem w_M_tellsAct {q : QT} {z : ZT} {a1 : Int32} {a2 : Int32} {μ : Mm} {ν : Ml} (C : Ctx sdM q z prog_14_method_99_code "BesideTomModel" 4 7 (some (FieldType.int))) : R sdM q z 4 (φIm ν) (F_M_tellsAct a1 a2 μ) μ ν 0 [(0, .ref (q.2.2.1 0)), (1, .int a1), (2, .int a2)] [] := by
  unfold F_M_tellsAct
  refine R_aload_n C 0 d_M_tellsAct_0 rfl rfl ?_
  refine gf_M_kind C fl_M_22 d_M_tellsAct_1 ?_
  refine R_iload_n C 1 d_M_tellsAct_4 rfl rfl ?_
  refine R_iald C mm_4 (mc_4 q _ _) d_M_tellsAct_5 (fun v1 => ?_)
  refine R_ite (fun e29 => ?_) (fun e29 => ?_)
  · refine R_tsw C e29 d_M_tellsAct_6 (tgt := 36) (by decide +kernel) (by decide +kernel) rfl (by decide) ?_
    refine R_aload_n C 0 d_M_tellsAct_36 rfl rfl ?_
    refine R_bipush C d_M_tellsAct_37 (v := 40) (by decide +kernel) ?_
    refine R_bind (fun μ2 h3 => ?_)
    refine R_callV C mm_0 (mc_0 q _ _) rfl cf_M_body rfl ml_M_423 im_M_body sl_M_M_body_M_body (c_M_body (gk C) h3) (by decide) (by decide) rfl rfl (Nat.le_of_ble_eq_true rfl) d_M_tellsAct_39 ?_
    refine R_aload_n C 0 d_M_tellsAct_42 rfl rfl ?_
    refine R_iload_n C 1 d_M_tellsAct_43 rfl rfl ?_
    refine R_iload_n C 2 d_M_tellsAct_44 rfl rfl ?_
    refine R_bind (fun r_ h6 => ?_)
    obtain ⟨v4, μ5⟩ := r_
    refine R_callV C mm_0 (mc_0 q _ _) rfl cf_M_pupilTells rfl ml_M_441 im_M_pupilTells sl_M_M_pupilTells_M_pupilTells (c_M_pupilTells (gk C) h6) (by decide) (by decide) rfl rfl (Nat.le_of_ble_eq_true rfl) d_M_tellsAct_45 ?_
    refine R_istore_n C (lv' := [(3, .int v4), (0, .ref (q.2.2.1 0)), (1, .int a1), (2, .int a2)]) d_M_tellsAct_48 rfl (by decide) rfl ?_
    refine R_iload_n C 0 d_M_tellsAct_49 rfl rfl ?_
    refine R_aload_n C 1 d_M_tellsAct_50 rfl rfl ?_
    refine R_iload_n C 2 d_M_tellsAct_51 rfl rfl ?_
    refine R_iconst C d_M_tellsAct_52 (v := 1) (by decide +kernel) ?_
    refine R_bind (fun r_ h9 => ?_)
    obtain ⟨v7, μ8⟩ := r_
    refine R_callV C mm_0 (mc_0 q _ _) rfl cf_M_chatsAct rfl ml_M_438 im_M_chatsAct sl_M_M_chatsAct_M_chatsAct (c_M_chatsAct (gk C) h9) (by decide) (by decide) rfl rfl (Nat.le_of_ble_eq_true rfl) d_M_tellsAct_53 ?_
    refine R_iadd C d_M_tellsAct_56 ?_
    exact R_iret C rfl d_M_tellsAct_57
  refine R_ite (fun e30 => ?_) (fun e30 => ?_)
  · refine R_tsw C e30 d_M_tellsAct_6 (tgt := 73) (by decide +kernel) (by decide +kernel) rfl (by decide) ?_
    refine R_aload_n C 0 d_M_tellsAct_73 rfl rfl ?_
    refine R_iload_n C 1 d_M_tellsAct_74 rfl rfl ?_
    refine R_iload_n C 2 d_M_tellsAct_75 rfl rfl ?_
    refine R_bind (fun r_ h12 => ?_)
    obtain ⟨v10, μ11⟩ := r_
    refine R_callV C mm_0 (mc_0 q _ _) rfl cf_M_pupilTells rfl ml_M_441 im_M_pupilTells sl_M_M_pupilTells_M_pupilTells (c_M_pupilTells (gk C) h12) (by decide) (by decide) rfl rfl (Nat.le_of_ble_eq_true rfl) d_M_tellsAct_76 ?_
    exact R_iret C rfl d_M_tellsAct_79
  refine R_ite (fun e31 => ?_) (fun e31 => ?_)
  · refine R_tsw C e31 d_M_tellsAct_6 (tgt := 58) (by decide +kernel) (by decide +kernel) rfl (by decide) ?_
    refine R_aload_n C 0 d_M_tellsAct_58 rfl rfl ?_
    refine R_bipush C d_M_tellsAct_59 (v := 60) (by decide +kernel) ?_
    refine R_bind (fun μ13 h14 => ?_)
    refine R_callV C mm_0 (mc_0 q _ _) rfl cf_M_body rfl ml_M_423 im_M_body sl_M_M_body_M_body (c_M_body (gk C) h14) (by decide) (by decide) rfl rfl (Nat.le_of_ble_eq_true rfl) d_M_tellsAct_61 ?_
    refine R_aload_n C 0 d_M_tellsAct_64 rfl rfl ?_
    refine R_iload_n C 1 d_M_tellsAct_65 rfl rfl ?_
    refine R_iload_n C 2 d_M_tellsAct_66 rfl rfl ?_
    refine R_iload_n C 1 d_M_tellsAct_67 rfl rfl ?_
    refine R_isub C d_M_tellsAct_68 ?_
    refine R_bind (fun r_ h17 => ?_)
    obtain ⟨v15, μ16⟩ := r_
    refine R_callV C mm_0 (mc_0 q _ _) rfl cf_M_pupilTells rfl ml_M_441 im_M_pupilTells sl_M_M_pupilTells_M_pupilTells (c_M_pupilTells (gk C) h17) (by decide) (by decide) rfl rfl (Nat.le_of_ble_eq_true rfl) d_M_tellsAct_69 ?_
    exact R_iret C rfl d_M_tellsAct_72
  refine R_ite (fun e32 => ?_) (fun e32 => ?_)
  · refine R_tsw C e32 d_M_tellsAct_6 (tgt := 36) (by decide +kernel) (by decide +kernel) rfl (by decide) ?_
    refine R_aload_n C 0 d_M_tellsAct_36 rfl rfl ?_
    refine R_bipush C d_M_tellsAct_37 (v := 40) (by decide +kernel) ?_
    refine R_bind (fun μ18 h19 => ?_)
    refine R_callV C mm_0 (mc_0 q _ _) rfl cf_M_body rfl ml_M_423 im_M_body sl_M_M_body_M_body (c_M_body (gk C) h19) (by decide) (by decide) rfl rfl (Nat.le_of_ble_eq_true rfl) d_M_tellsAct_39 ?_
    refine R_aload_n C 0 d_M_tellsAct_42 rfl rfl ?_
    refine R_iload_n C 1 d_M_tellsAct_43 rfl rfl ?_
    refine R_iload_n C 2 d_M_tellsAct_44 rfl rfl ?_
    refine R_bind (fun r_ h22 => ?_)
    obtain ⟨v20, μ21⟩ := r_
    refine R_callV C mm_0 (mc_0 q _ _) rfl cf_M_pupilTells rfl ml_M_441 im_M_pupilTells sl_M_M_pupilTells_M_pupilTells (c_M_pupilTells (gk C) h22) (by decide) (by decide) rfl rfl (Nat.le_of_ble_eq_true rfl) d_M_tellsAct_45 ?_
    refine R_istore_n C (lv' := [(3, .int v20), (0, .ref (q.2.2.1 0)), (1, .int a1), (2, .int a2)]) d_M_tellsAct_48 rfl (by decide) rfl ?_
    refine R_iload_n C 0 d_M_tellsAct_49 rfl rfl ?_
    refine R_aload_n C 1 d_M_tellsAct_50 rfl rfl ?_
    refine R_iload_n C 2 d_M_tellsAct_51 rfl rfl ?_
    refine R_iconst C d_M_tellsAct_52 (v := 1) (by decide +kernel) ?_
    refine R_bind (fun r_ h25 => ?_)
    obtain ⟨v23, μ24⟩ := r_
    refine R_callV C mm_0 (mc_0 q _ _) rfl cf_M_chatsAct rfl ml_M_438 im_M_chatsAct sl_M_M_chatsAct_M_chatsAct (c_M_chatsAct (gk C) h25) (by decide) (by decide) rfl rfl (Nat.le_of_ble_eq_true rfl) d_M_tellsAct_53 ?_
    refine R_iadd C d_M_tellsAct_56 ?_
    exact R_iret C rfl d_M_tellsAct_57
  refine R_tswd C d_M_tellsAct_6 (tgt := 73) (sw_out (L := [3, 4, 5, 6]) (n := 4) (by decide +kernel) (by decide +kernel) (List.forall_mem_cons.mpr ⟨e29, List.forall_mem_cons.mpr ⟨e30, List.forall_mem_cons.mpr ⟨e31, List.forall_mem_cons.mpr ⟨e32, fun _ h => absurd h List.not_mem_nil⟩⟩⟩⟩)) (by decide) ?_
  refine R_aload_n C 0 d_M_tellsAct_73 rfl rfl ?_
  refine R_iload_n C 1 d_M_tellsAct_74 rfl rfl ?_
  refine R_iload_n C 2 d_M_tellsAct_75 rfl rfl ?_
  refine R_bind (fun r_ h28 => ?_)
  obtain ⟨v26, μ27⟩ := r_
  refine R_callV C mm_0 (mc_0 q _ _) rfl cf_M_pupilTells rfl ml_M_441 im_M_pupilTells sl_M_M_pupilTells_M_pupilTells (c_M_pupilTells (gk C) h28) (by decide) (by decide) rfl rfl (Nat.le_of_ble_eq_true rfl) d_M_tellsAct_76 ?_
  exact R_iret C rfl d_M_tellsAct_79
theorem c_M_tellsAct {q : QT} (hg : GOk sdM q) {a1 : Int32} {a2 : Int32} {μ : Mm} {ν : Ml} {o : Int32 × Mm} (ho : F_M_tellsAct a1 a2 μ = some o) : Ct sdM q y_M_tellsAct prog_14_method_99_code 4 (some (FieldType.int)) 7 [.ref (q.2.2.1 0), .int a1, .int a2] μ ν ((φIm ν) o).1 ((φIm ν) o).2.1 ((φIm ν) o).2.2 := Ct_of rfl hg (fun z C => w_M_tellsAct C) (Nat.le_of_ble_eq_true rfl) ho
def F_M_told (a1 : Int32) (μ : Mm) : Option (Int32 × Mm) := (F_M_in a1 10 15).bind fun v1 => (if v1 = 0 then (if a1 = 0 then some ((μ 0 3), μ) else if a1 = 1 then some ((μ 0 2), μ) else if a1 = 2 then (F_M_wears μ).bind fun v3 => some (v3, μ) else if a1 = 3 then (F_M_cost μ).bind fun v5 => some (v5, μ) else if a1 = 4 then (F_M_noise μ).bind fun p_ => match p_ with | (v7, μ8) => some (v7, μ8) else if a1 = 5 then (F_M_allKnow μ).bind fun v10 => some (v10, μ) else if a1 = 6 then (F_M_allLearn μ).bind fun p_ => match p_ with | (v12, μ13) => some (v12, μ13) else some ((-1), μ)) else (F_M_whoHas (a1 - 10) μ).bind fun v15 => some (v15, μ))
theorem d_M_told_0 : decode prog_14_method_55_code 0 = .ok (.aload_n 0, 1) := by decide +kernel
theorem d_M_told_1 : decode prog_14_method_55_code 1 = .ok (.iload_n 1, 1) := by decide +kernel
theorem d_M_told_2 : decode prog_14_method_55_code 2 = .ok (.bipush 10, 2) := by decide +kernel
theorem d_M_told_4 : decode prog_14_method_55_code 4 = .ok (.bipush 15, 2) := by decide +kernel
theorem d_M_told_6 : decode prog_14_method_55_code 6 = .ok (.invokevirtual 225, 3) := by decide +kernel
theorem d_M_told_21 : decode prog_14_method_55_code 21 = .ok (.iload_n 1, 1) := by decide +kernel
theorem d_M_told_22 : decode prog_14_method_55_code 22 = .ok (.tableswitch 77 0 6 #[42, 47, 52, 57, 62, 67, 72], 42) := by decide +kernel
theorem d_M_told_64 : decode prog_14_method_55_code 64 = .ok (.aload_n 0, 1) := by decide +kernel
theorem d_M_told_68 : decode prog_14_method_55_code 68 = .ok (.ireturn, 1) := by decide +kernel
theorem d_M_told_65 : decode prog_14_method_55_code 65 = .ok (.getfield 19, 3) := by decide +kernel
theorem d_M_told_69 : decode prog_14_method_55_code 69 = .ok (.aload_n 0, 1) := by decide +kernel
theorem d_M_told_73 : decode prog_14_method_55_code 73 = .ok (.ireturn, 1) := by decide +kernel
theorem d_M_told_70 : decode prog_14_method_55_code 70 = .ok (.getfield 16, 3) := by decide +kernel
theorem d_M_told_74 : decode prog_14_method_55_code 74 = .ok (.aload_n 0, 1) := by decide +kernel
theorem d_M_told_75 : decode prog_14_method_55_code 75 = .ok (.invokevirtual 337, 3) := by decide +kernel
theorem d_M_told_78 : decode prog_14_method_55_code 78 = .ok (.ireturn, 1) := by decide +kernel
theorem d_M_told_79 : decode prog_14_method_55_code 79 = .ok (.aload_n 0, 1) := by decide +kernel
theorem d_M_told_80 : decode prog_14_method_55_code 80 = .ok (.invokevirtual 343, 3) := by decide +kernel
theorem d_M_told_83 : decode prog_14_method_55_code 83 = .ok (.ireturn, 1) := by decide +kernel
theorem d_M_told_84 : decode prog_14_method_55_code 84 = .ok (.aload_n 0, 1) := by decide +kernel
theorem d_M_told_85 : decode prog_14_method_55_code 85 = .ok (.invokevirtual 251, 3) := by decide +kernel
theorem d_M_told_88 : decode prog_14_method_55_code 88 = .ok (.ireturn, 1) := by decide +kernel
theorem d_M_told_89 : decode prog_14_method_55_code 89 = .ok (.aload_n 0, 1) := by decide +kernel
theorem d_M_told_90 : decode prog_14_method_55_code 90 = .ok (.invokevirtual 352, 3) := by decide +kernel
theorem d_M_told_93 : decode prog_14_method_55_code 93 = .ok (.ireturn, 1) := by decide +kernel
theorem d_M_told_94 : decode prog_14_method_55_code 94 = .ok (.aload_n 0, 1) := by decide +kernel
theorem d_M_told_95 : decode prog_14_method_55_code 95 = .ok (.invokevirtual 355, 3) := by decide +kernel
theorem d_M_told_98 : decode prog_14_method_55_code 98 = .ok (.ireturn, 1) := by decide +kernel
theorem d_M_told_99 : decode prog_14_method_55_code 99 = .ok (.iconst (-1), 1) := by decide +kernel
theorem d_M_told_100 : decode prog_14_method_55_code 100 = .ok (.ireturn, 1) := by decide +kernel
theorem d_M_told_12 : decode prog_14_method_55_code 12 = .ok (.aload_n 0, 1) := by decide +kernel
theorem d_M_told_13 : decode prog_14_method_55_code 13 = .ok (.iload_n 1, 1) := by decide +kernel
theorem d_M_told_14 : decode prog_14_method_55_code 14 = .ok (.bipush 10, 2) := by decide +kernel
theorem d_M_told_16 : decode prog_14_method_55_code 16 = .ok (.isub, 1) := by decide +kernel
theorem d_M_told_17 : decode prog_14_method_55_code 17 = .ok (.invokevirtual 229, 3) := by decide +kernel
theorem d_M_told_20 : decode prog_14_method_55_code 20 = .ok (.ireturn, 1) := by decide +kernel
theorem d_M_told_9 : decode prog_14_method_55_code 9 = .ok (.ifCond .eq 12, 3) := by decide +kernel
set_option maxRecDepth 10000 in
set_option maxHeartbeats 4000000 in
theorem w_M_told {q : QT} {z : ZT} {a1 : Int32} {μ : Mm} {ν : Ml} (C : Ctx sdM q z prog_14_method_55_code "BesideTomModel" 2 7 (some (FieldType.int))) : R sdM q z 2 (φIm ν) (F_M_told a1 μ) μ ν 0 [(0, .ref (q.2.2.1 0)), (1, .int a1)] [] := by
  unfold F_M_told
  refine R_aload_n C 0 d_M_told_0 rfl rfl ?_
  refine R_iload_n C 1 d_M_told_1 rfl rfl ?_
  refine R_bipush C d_M_told_2 (v := 10) (by decide +kernel) ?_
  refine R_bipush C d_M_told_4 (v := 15) (by decide +kernel) ?_
  refine R_bind (fun v1 h2 => ?_)
  refine R_callV C mm_0 (mc_0 q _ _) rfl cf_M_in rfl ml_M_225 im_M_in sl_M_M_in_M_in (c_M_in (gk C) h2) (by decide) (by decide) rfl rfl (Nat.le_of_ble_eq_true rfl) d_M_told_6 ?_
  refine R_if_eq C d_M_told_9 (tgt := 21) (by decide) ?_ ?_
  · skip
    refine R_iload_n C 1 d_M_told_21 rfl rfl ?_
    refine R_ite (fun e17 => ?_) (fun e17 => ?_)
    · refine R_tsw C e17 d_M_told_22 (tgt := 64) (by decide +kernel) (by decide +kernel) rfl (by decide) ?_
      refine R_aload_n C 0 d_M_told_64 rfl rfl ?_
      refine gf_M_weeks C fl_M_19 d_M_told_65 ?_
      exact R_iret C rfl d_M_told_68
    refine R_ite (fun e18 => ?_) (fun e18 => ?_)
    · refine R_tsw C e18 d_M_told_22 (tgt := 69) (by decide +kernel) (by decide +kernel) rfl (by decide) ?_
      refine R_aload_n C 0 d_M_told_69 rfl rfl ?_
      refine gf_M_worn C fl_M_16 d_M_told_70 ?_
      exact R_iret C rfl d_M_told_73
    refine R_ite (fun e19 => ?_) (fun e19 => ?_)
    · refine R_tsw C e19 d_M_told_22 (tgt := 74) (by decide +kernel) (by decide +kernel) rfl (by decide) ?_
      refine R_aload_n C 0 d_M_told_74 rfl rfl ?_
      refine R_bind (fun v3 h4 => ?_)
      refine R_callV C mm_0 (mc_0 q _ _) rfl cf_M_wears rfl ml_M_337 im_M_wears sl_M_M_wears_M_wears (c_M_wears (gk C) h4) (by decide) (by decide) rfl rfl (Nat.le_of_ble_eq_true rfl) d_M_told_75 ?_
      exact R_iret C rfl d_M_told_78
    refine R_ite (fun e20 => ?_) (fun e20 => ?_)
    · refine R_tsw C e20 d_M_told_22 (tgt := 79) (by decide +kernel) (by decide +kernel) rfl (by decide) ?_
      refine R_aload_n C 0 d_M_told_79 rfl rfl ?_
      refine R_bind (fun v5 h6 => ?_)
      refine R_callV C mm_0 (mc_0 q _ _) rfl cf_M_cost rfl ml_M_343 im_M_cost sl_M_M_cost_M_cost (c_M_cost (gk C) h6) (by decide) (by decide) rfl rfl (Nat.le_of_ble_eq_true rfl) d_M_told_80 ?_
      exact R_iret C rfl d_M_told_83
    refine R_ite (fun e21 => ?_) (fun e21 => ?_)
    · refine R_tsw C e21 d_M_told_22 (tgt := 84) (by decide +kernel) (by decide +kernel) rfl (by decide) ?_
      refine R_aload_n C 0 d_M_told_84 rfl rfl ?_
      refine R_bind (fun r_ h9 => ?_)
      obtain ⟨v7, μ8⟩ := r_
      refine R_callV C mm_0 (mc_0 q _ _) rfl cf_M_noise rfl ml_M_251 im_M_noise sl_M_M_noise_M_noise (c_M_noise (gk C) h9) (by decide) (by decide) rfl rfl (Nat.le_of_ble_eq_true rfl) d_M_told_85 ?_
      exact R_iret C rfl d_M_told_88
    refine R_ite (fun e22 => ?_) (fun e22 => ?_)
    · refine R_tsw C e22 d_M_told_22 (tgt := 89) (by decide +kernel) (by decide +kernel) rfl (by decide) ?_
      refine R_aload_n C 0 d_M_told_89 rfl rfl ?_
      refine R_bind (fun v10 h11 => ?_)
      refine R_callV C mm_0 (mc_0 q _ _) rfl cf_M_allKnow rfl ml_M_352 im_M_allKnow sl_M_M_allKnow_M_allKnow (c_M_allKnow (gk C) h11) (by decide) (by decide) rfl rfl (Nat.le_of_ble_eq_true rfl) d_M_told_90 ?_
      exact R_iret C rfl d_M_told_93
    refine R_ite (fun e23 => ?_) (fun e23 => ?_)
    · refine R_tsw C e23 d_M_told_22 (tgt := 94) (by decide +kernel) (by decide +kernel) rfl (by decide) ?_
      refine R_aload_n C 0 d_M_told_94 rfl rfl ?_
      refine R_bind (fun r_ h14 => ?_)
      obtain ⟨v12, μ13⟩ := r_
      refine R_callV C mm_0 (mc_0 q _ _) rfl cf_M_allLearn rfl ml_M_355 im_M_allLearn sl_M_M_allLearn_M_allLearn (c_M_allLearn (gk C) h14) (by decide) (by decide) rfl rfl (Nat.le_of_ble_eq_true rfl) d_M_told_95 ?_
      exact R_iret C rfl d_M_told_98
    refine R_tswd C d_M_told_22 (tgt := 99) (sw_out (L := [0, 1, 2, 3, 4, 5, 6]) (n := 7) (by decide +kernel) (by decide +kernel) (List.forall_mem_cons.mpr ⟨e17, List.forall_mem_cons.mpr ⟨e18, List.forall_mem_cons.mpr ⟨e19, List.forall_mem_cons.mpr ⟨e20, List.forall_mem_cons.mpr ⟨e21, List.forall_mem_cons.mpr ⟨e22, List.forall_mem_cons.mpr ⟨e23, fun _ h => absurd h List.not_mem_nil⟩⟩⟩⟩⟩⟩⟩)) (by decide) ?_
    refine R_iconst C d_M_told_99 (v := (-1)) (by decide +kernel) ?_
    exact R_iret C rfl d_M_told_100
  · skip
    refine R_aload_n C 0 d_M_told_12 rfl rfl ?_
    refine R_iload_n C 1 d_M_told_13 rfl rfl ?_
    refine R_bipush C d_M_told_14 (v := 10) (by decide +kernel) ?_
    refine R_isub C d_M_told_16 ?_
    refine R_bind (fun v15 h16 => ?_)
    refine R_callV C mm_0 (mc_0 q _ _) rfl cf_M_whoHas rfl ml_M_229 im_M_whoHas sl_M_M_whoHas_M_whoHas (c_M_whoHas (gk C) h16) (by decide) (by decide) rfl rfl (Nat.le_of_ble_eq_true rfl) d_M_told_17 ?_
    exact R_iret C rfl d_M_told_20
theorem c_M_told {q : QT} (hg : GOk sdM q) {a1 : Int32} {μ : Mm} {ν : Ml} {o : Int32 × Mm} (ho : F_M_told a1 μ = some o) : Ct sdM q y_M_told prog_14_method_55_code 2 (some (FieldType.int)) 7 [.ref (q.2.2.1 0), .int a1] μ ν ((φIm ν) o).1 ((φIm ν) o).2.1 ((φIm ν) o).2.2 := Ct_of rfl hg (fun z C => w_M_told C) (Nat.le_of_ble_eq_true rfl) ho
def L_M_where_14 (f5 : Int32) (k : Int32 → Mm → Option (Int32 × Mm)) : Nat → Int32 → Int32 → Mm → Option (Int32 × Mm)
  | 0, _, _, _ => none
  | n + 1, s3, s4, μ6 => (if 6 ≤ s4 then k s3 μ6 else (F_M_save μ6).bind fun μ7 => (F_M_takesDesk f5 s4 μ7).bind fun μ9 => (F_M_isHeard μ9).bind fun p_ => match p_ with | (v11, μ12) => jn (α := Int32) (fun K17 => (if v11 = 0 then K17 0 else K17 (1 <<< (s4 &&& 31)))) (fun (j14 : Int32) => (F_M_putBack μ12).bind fun μ15 => L_M_where_14 f5 k n (s3 ||| j14) (s4 + 1) μ15))
def F_M_where (a1 : Int32) (μ : Mm) : Option (Int32 × Mm) := (F_M_isPupil a1 μ).bind fun v1 => (if v1 = 0 then some ((-1), μ) else L_M_where_14 a1 (fun (x18 : Int32) (μ19 : Mm) => some (x18, μ19)) fu 0 0 μ)
theorem d_M_where_0 : decode prog_14_method_79_code 0 = .ok (.aload_n 0, 1) := by decide +kernel
theorem d_M_where_1 : decode prog_14_method_79_code 1 = .ok (.iload_n 1, 1) := by decide +kernel
theorem d_M_where_2 : decode prog_14_method_79_code 2 = .ok (.invokevirtual 233, 3) := by decide +kernel
theorem d_M_where_10 : decode prog_14_method_79_code 10 = .ok (.iconst 0, 1) := by decide +kernel
theorem d_M_where_11 : decode prog_14_method_79_code 11 = .ok (.istore_n 2, 1) := by decide +kernel
theorem d_M_where_12 : decode prog_14_method_79_code 12 = .ok (.iconst 0, 1) := by decide +kernel
theorem d_M_where_13 : decode prog_14_method_79_code 13 = .ok (.istore_n 3, 1) := by decide +kernel
theorem d_M_where_14 : decode prog_14_method_79_code 14 = .ok (.iload_n 3, 1) := by decide +kernel
theorem d_M_where_15 : decode prog_14_method_79_code 15 = .ok (.bipush 6, 2) := by decide +kernel
theorem d_M_where_20 : decode prog_14_method_79_code 20 = .ok (.aload_n 0, 1) := by decide +kernel
theorem d_M_where_21 : decode prog_14_method_79_code 21 = .ok (.invokevirtual 371, 3) := by decide +kernel
theorem d_M_where_24 : decode prog_14_method_79_code 24 = .ok (.aload_n 0, 1) := by decide +kernel
theorem d_M_where_25 : decode prog_14_method_79_code 25 = .ok (.iload_n 1, 1) := by decide +kernel
theorem d_M_where_26 : decode prog_14_method_79_code 26 = .ok (.iload_n 3, 1) := by decide +kernel
theorem d_M_where_27 : decode prog_14_method_79_code 27 = .ok (.invokevirtual 241, 3) := by decide +kernel
theorem d_M_where_30 : decode prog_14_method_79_code 30 = .ok (.iload_n 2, 1) := by decide +kernel
theorem d_M_where_31 : decode prog_14_method_79_code 31 = .ok (.aload_n 0, 1) := by decide +kernel
theorem d_M_where_32 : decode prog_14_method_79_code 32 = .ok (.invokevirtual 408, 3) := by decide +kernel
theorem d_M_where_44 : decode prog_14_method_79_code 44 = .ok (.iconst 0, 1) := by decide +kernel
theorem d_M_where_38 : decode prog_14_method_79_code 38 = .ok (.iconst 1, 1) := by decide +kernel
theorem d_M_where_39 : decode prog_14_method_79_code 39 = .ok (.iload_n 3, 1) := by decide +kernel
theorem d_M_where_40 : decode prog_14_method_79_code 40 = .ok (.ishl, 1) := by decide +kernel
theorem d_M_where_41 : decode prog_14_method_79_code 41 = .ok (.goto 4, 3) := by decide +kernel
theorem d_M_where_35 : decode prog_14_method_79_code 35 = .ok (.ifCond .eq 9, 3) := by decide +kernel
theorem d_M_where_45 : decode prog_14_method_79_code 45 = .ok (.ior, 1) := by decide +kernel
theorem d_M_where_46 : decode prog_14_method_79_code 46 = .ok (.istore_n 2, 1) := by decide +kernel
theorem d_M_where_47 : decode prog_14_method_79_code 47 = .ok (.aload_n 0, 1) := by decide +kernel
theorem d_M_where_48 : decode prog_14_method_79_code 48 = .ok (.invokevirtual 374, 3) := by decide +kernel
theorem d_M_where_51 : decode prog_14_method_79_code 51 = .ok (.iinc 3 1, 3) := by decide +kernel
theorem d_M_where_54 : decode prog_14_method_79_code 54 = .ok (.goto (-40), 3) := by decide +kernel
theorem d_M_where_17 : decode prog_14_method_79_code 17 = .ok (.if_icmp .ge 40, 3) := by decide +kernel
set_option maxRecDepth 10000 in
set_option maxHeartbeats 4000000 in
theorem W_M_where_14 {q : QT} {z : ZT} {ν : Ml} {f5 : Int32} {k : Int32 → Mm → Option (Int32 × Mm)} (C : Ctx sdM q z prog_14_method_79_code "BesideTomModel" 4 7 (some (FieldType.int))) (hk : ∀ (e0_ : Int32) (me_ : Mm), R sdM q z 4 (φIm ν) (k e0_ me_) me_ ν 57 [(2, .int e0_)] []) : ∀ (n : Nat) (s3 : Int32) (s4 : Int32) (μ6 : Mm), R sdM q z 4 (φIm ν) (L_M_where_14 f5 k n s3 s4 μ6) μ6 ν 14 [(2, .int s3), (3, .int s4), (0, .ref (q.2.2.1 0)), (1, .int f5)] [] := by
  intro n
  induction n with
  | zero =>
    intros
    exact R_none
  | succ n ih =>
    intro s3 s4 μ6
    rw [L_M_where_14]
    refine R_iload_n C 1 d_M_where_14 rfl rfl ?_
    refine R_bipush C d_M_where_15 (v := 6) (by decide +kernel) ?_
    refine R_icmp_ge C d_M_where_17 (tgt := 57) (by decide) ?_ ?_
    · skip
      exact R_sub [0] rfl (hk s3 μ6)
    · skip
      refine R_aload_n C 2 d_M_where_20 rfl rfl ?_
      refine R_bind (fun μ7 h8 => ?_)
      refine R_callV C mm_0 (mc_0 q _ _) rfl cf_M_save rfl ml_M_371 im_M_save sl_M_M_save_M_save (c_M_save (gk C) h8) (by decide) (by decide) rfl rfl (Nat.le_of_ble_eq_true rfl) d_M_where_21 ?_
      refine R_aload_n C 2 d_M_where_24 rfl rfl ?_
      refine R_iload_n C 3 d_M_where_25 rfl rfl ?_
      refine R_iload_n C 1 d_M_where_26 rfl rfl ?_
      refine R_bind (fun μ9 h10 => ?_)
      refine R_callV C mm_0 (mc_0 q _ _) rfl cf_M_takesDesk rfl ml_M_241 im_M_takesDesk sl_M_M_takesDesk_M_takesDesk (c_M_takesDesk (gk C) h10) (by decide) (by decide) rfl rfl (Nat.le_of_ble_eq_true rfl) d_M_where_27 ?_
      refine R_iload_n C 0 d_M_where_30 rfl rfl ?_
      refine R_aload_n C 2 d_M_where_31 rfl rfl ?_
      refine R_bind (fun r_ h13 => ?_)
      obtain ⟨v11, μ12⟩ := r_
      refine R_callV C mm_0 (mc_0 q _ _) rfl cf_M_isHeard rfl ml_M_408 im_M_isHeard sl_M_M_isHeard_M_isHeard (c_M_isHeard (gk C) h13) (by decide) (by decide) rfl rfl (Nat.le_of_ble_eq_true rfl) d_M_where_32 ?_
      refine R_jn (fun K17 => ∀ (j14 : Int32), R sdM q z 4 (φIm ν) (K17 j14) μ12 ν 45 [(0, .ref (q.2.2.1 0)), (1, .int f5), (3, .int s4)] [.int j14, .int s3]) ?_ (fun K17 hK17 => ?_)
      · intro j14
        refine R_ior C d_M_where_45 ?_
        refine R_istore_n C (lv' := [(2, .int (s3 ||| j14)), (0, .ref (q.2.2.1 0)), (1, .int f5), (3, .int s4)]) d_M_where_46 rfl (by decide) rfl ?_
        refine R_aload_n C 1 d_M_where_47 rfl rfl ?_
        refine R_bind (fun μ15 h16 => ?_)
        refine R_callV C mm_0 (mc_0 q _ _) rfl cf_M_putBack rfl ml_M_374 im_M_putBack sl_M_M_putBack_M_putBack (c_M_putBack (gk C) h16) (by decide) (by decide) rfl rfl (Nat.le_of_ble_eq_true rfl) d_M_where_48 ?_
        refine R_iinc C 3 d_M_where_51 rfl (iinc_v _ (v := 1) (by decide +kernel)) (lv' := [(3, .int (s4 + 1)), (2, .int (s3 ||| j14)), (0, .ref (q.2.2.1 0)), (1, .int f5)]) (by decide) rfl ?_
        refine R_goto C d_M_where_54 (tgt := 14) (by decide) ?_
        exact R_sub [1, 0, 2, 3] rfl (ih (s3 ||| j14) (s4 + 1) μ15)
      · skip
        refine R_if_eq C d_M_where_35 (tgt := 44) (by decide) ?_ ?_
        · skip
          refine R_iconst C d_M_where_44 (v := 0) (by decide +kernel) ?_
          exact R_sub [2, 3, 1] rfl (hK17 0)
        · skip
          refine R_iconst C d_M_where_38 (v := 1) (by decide +kernel) ?_
          refine R_iload_n C 1 d_M_where_39 rfl rfl ?_
          refine R_ishl C d_M_where_40 ?_
          refine R_goto C d_M_where_41 (tgt := 45) (by decide) ?_
          exact R_sub [2, 3, 1] rfl (hK17 (1 <<< (s4 &&& 31)))
theorem d_M_where_57 : decode prog_14_method_79_code 57 = .ok (.iload_n 2, 1) := by decide +kernel
theorem d_M_where_58 : decode prog_14_method_79_code 58 = .ok (.ireturn, 1) := by decide +kernel
theorem d_M_where_8 : decode prog_14_method_79_code 8 = .ok (.iconst (-1), 1) := by decide +kernel
theorem d_M_where_9 : decode prog_14_method_79_code 9 = .ok (.ireturn, 1) := by decide +kernel
theorem d_M_where_5 : decode prog_14_method_79_code 5 = .ok (.ifCond .ne 5, 3) := by decide +kernel
set_option maxRecDepth 10000 in
set_option maxHeartbeats 4000000 in
theorem w_M_where {q : QT} {z : ZT} {a1 : Int32} {μ : Mm} {ν : Ml} (C : Ctx sdM q z prog_14_method_79_code "BesideTomModel" 4 7 (some (FieldType.int))) : R sdM q z 4 (φIm ν) (F_M_where a1 μ) μ ν 0 [(0, .ref (q.2.2.1 0)), (1, .int a1)] [] := by
  unfold F_M_where
  refine R_aload_n C 0 d_M_where_0 rfl rfl ?_
  refine R_iload_n C 1 d_M_where_1 rfl rfl ?_
  refine R_bind (fun v1 h2 => ?_)
  refine R_callV C mm_0 (mc_0 q _ _) rfl cf_M_isPupil rfl ml_M_233 im_M_isPupil sl_M_M_isPupil_M_isPupil (c_M_isPupil (gk C) h2) (by decide) (by decide) rfl rfl (Nat.le_of_ble_eq_true rfl) d_M_where_2 ?_
  refine R_if_ne C d_M_where_5 (tgt := 10) (by decide) ?_ ?_
  · skip
    refine R_iconst C d_M_where_10 (v := 0) (by decide +kernel) ?_
    refine R_istore_n C (lv' := [(2, .int 0), (0, .ref (q.2.2.1 0)), (1, .int a1)]) d_M_where_11 rfl (by decide) rfl ?_
    refine R_iconst C d_M_where_12 (v := 0) (by decide +kernel) ?_
    refine R_istore_n C (lv' := [(3, .int 0), (2, .int 0), (0, .ref (q.2.2.1 0)), (1, .int a1)]) d_M_where_13 rfl (by decide) rfl ?_
    refine R_sub [1, 0, 2, 3] rfl ?_
    refine W_M_where_14 C ?_ fu _ _ _
    intro x18 μ19
    refine R_iload_n C 0 d_M_where_57 rfl rfl ?_
    exact R_iret C rfl d_M_where_58
  · skip
    refine R_iconst C d_M_where_8 (v := (-1)) (by decide +kernel) ?_
    exact R_iret C rfl d_M_where_9
theorem c_M_where {q : QT} (hg : GOk sdM q) {a1 : Int32} {μ : Mm} {ν : Ml} {o : Int32 × Mm} (ho : F_M_where a1 μ = some o) : Ct sdM q y_M_where prog_14_method_79_code 4 (some (FieldType.int)) 7 [.ref (q.2.2.1 0), .int a1] μ ν ((φIm ν) o).1 ((φIm ν) o).2.1 ((φIm ν) o).2.2 := Ct_of rfl hg (fun z C => w_M_where C) (Nat.le_of_ble_eq_true rfl) ho
def L_M_worstOf_7 (k : Int32 → Mm → Option (Int32 × Mm)) : Nat → Int32 → Int32 → Int32 → Mm → Option (Int32 × Mm)
  | 0, _, _, _, _ => none
  | n + 1, s1, s2, s3, μ4 => (if (μ4 0 0) ≤ s3 then k s1 μ4 else (F_M_noiseWithout s3 μ4).bind fun p_ => match p_ with | (v5, μ6) => jn (α := Int32 × Int32) (fun K11 => jn (α := Unit) (fun K8 => (if s1 < 0 then K8 () else (if v5 < s2 then K8 () else K11 (s1, s2)))) (fun (_ : Unit) => K11 (s3, v5))) (fun (p_ : Int32 × Int32) => match p_ with | (j9, j10) => L_M_worstOf_7 k n j9 j10 (s3 + 1) μ6))
def F_M_worstOf (μ : Mm) : Option (Int32 × Mm) := L_M_worstOf_7 (fun (x12 : Int32) (μ13 : Mm) => some (x12, μ13)) fu (-5) 0 0 μ
theorem d_M_worstOf_0 : decode prog_14_method_71_code 0 = .ok (.bipush (-5), 2) := by decide +kernel
theorem d_M_worstOf_2 : decode prog_14_method_71_code 2 = .ok (.istore_n 1, 1) := by decide +kernel
theorem d_M_worstOf_3 : decode prog_14_method_71_code 3 = .ok (.iconst 0, 1) := by decide +kernel
theorem d_M_worstOf_4 : decode prog_14_method_71_code 4 = .ok (.istore_n 2, 1) := by decide +kernel
theorem d_M_worstOf_5 : decode prog_14_method_71_code 5 = .ok (.iconst 0, 1) := by decide +kernel
theorem d_M_worstOf_6 : decode prog_14_method_71_code 6 = .ok (.istore_n 3, 1) := by decide +kernel
theorem d_M_worstOf_7 : decode prog_14_method_71_code 7 = .ok (.iload_n 3, 1) := by decide +kernel
theorem d_M_worstOf_8 : decode prog_14_method_71_code 8 = .ok (.aload_n 0, 1) := by decide +kernel
theorem d_M_worstOf_15 : decode prog_14_method_71_code 15 = .ok (.aload_n 0, 1) := by decide +kernel
theorem d_M_worstOf_16 : decode prog_14_method_71_code 16 = .ok (.iload_n 3, 1) := by decide +kernel
theorem d_M_worstOf_17 : decode prog_14_method_71_code 17 = .ok (.invokevirtual 390, 3) := by decide +kernel
theorem d_M_worstOf_20 : decode prog_14_method_71_code 20 = .ok (.istore 4, 2) := by decide +kernel
theorem d_M_worstOf_22 : decode prog_14_method_71_code 22 = .ok (.iload_n 1, 1) := by decide +kernel
theorem d_M_worstOf_26 : decode prog_14_method_71_code 26 = .ok (.iload 4, 2) := by decide +kernel
theorem d_M_worstOf_28 : decode prog_14_method_71_code 28 = .ok (.iload_n 2, 1) := by decide +kernel
theorem d_M_worstOf_32 : decode prog_14_method_71_code 32 = .ok (.goto 8, 3) := by decide +kernel
theorem d_M_worstOf_29 : decode prog_14_method_71_code 29 = .ok (.if_icmp .lt 6, 3) := by decide +kernel
theorem d_M_worstOf_23 : decode prog_14_method_71_code 23 = .ok (.ifCond .lt 12, 3) := by decide +kernel
theorem d_M_worstOf_35 : decode prog_14_method_71_code 35 = .ok (.iload_n 3, 1) := by decide +kernel
theorem d_M_worstOf_36 : decode prog_14_method_71_code 36 = .ok (.istore_n 1, 1) := by decide +kernel
theorem d_M_worstOf_37 : decode prog_14_method_71_code 37 = .ok (.iload 4, 2) := by decide +kernel
theorem d_M_worstOf_39 : decode prog_14_method_71_code 39 = .ok (.istore_n 2, 1) := by decide +kernel
theorem d_M_worstOf_40 : decode prog_14_method_71_code 40 = .ok (.iinc 3 1, 3) := by decide +kernel
theorem d_M_worstOf_43 : decode prog_14_method_71_code 43 = .ok (.goto (-36), 3) := by decide +kernel
theorem d_M_worstOf_12 : decode prog_14_method_71_code 12 = .ok (.if_icmp .ge 34, 3) := by decide +kernel
theorem d_M_worstOf_9 : decode prog_14_method_71_code 9 = .ok (.getfield 7, 3) := by decide +kernel
set_option maxRecDepth 10000 in
set_option maxHeartbeats 4000000 in
theorem W_M_worstOf_7 {q : QT} {z : ZT} {ν : Ml} {k : Int32 → Mm → Option (Int32 × Mm)} (C : Ctx sdM q z prog_14_method_71_code "BesideTomModel" 5 7 (some (FieldType.int))) (hk : ∀ (e0_ : Int32) (me_ : Mm), R sdM q z 5 (φIm ν) (k e0_ me_) me_ ν 46 [(1, .int e0_)] []) : ∀ (n : Nat) (s1 : Int32) (s2 : Int32) (s3 : Int32) (μ4 : Mm), R sdM q z 5 (φIm ν) (L_M_worstOf_7 k n s1 s2 s3 μ4) μ4 ν 7 [(1, .int s1), (2, .int s2), (3, .int s3), (0, .ref (q.2.2.1 0))] [] := by
  intro n
  induction n with
  | zero =>
    intros
    exact R_none
  | succ n ih =>
    intro s1 s2 s3 μ4
    rw [L_M_worstOf_7]
    refine R_iload_n C 2 d_M_worstOf_7 rfl rfl ?_
    refine R_aload_n C 3 d_M_worstOf_8 rfl rfl ?_
    refine gf_M_pupils C fl_M_7 d_M_worstOf_9 ?_
    refine R_icmp_ge C d_M_worstOf_12 (tgt := 46) (by decide) ?_ ?_
    · skip
      exact R_sub [0] rfl (hk s1 μ4)
    · skip
      refine R_aload_n C 3 d_M_worstOf_15 rfl rfl ?_
      refine R_iload_n C 2 d_M_worstOf_16 rfl rfl ?_
      refine R_bind (fun r_ h7 => ?_)
      obtain ⟨v5, μ6⟩ := r_
      refine R_callV C mm_0 (mc_0 q _ _) rfl cf_M_noiseWithout rfl ml_M_390 im_M_noiseWithout sl_M_M_noiseWithout_M_noiseWithout (c_M_noiseWithout (gk C) h7) (by decide) (by decide) rfl rfl (Nat.le_of_ble_eq_true rfl) d_M_worstOf_17 ?_
      refine R_istore C (lv' := [(4, .int v5), (1, .int s1), (2, .int s2), (3, .int s3), (0, .ref (q.2.2.1 0))]) d_M_worstOf_20 (by decide) rfl ?_
      refine R_iload_n C 1 d_M_worstOf_22 rfl rfl ?_
      refine R_jn (fun K11 => ∀ (j9 : Int32) (j10 : Int32), R sdM q z 5 (φIm ν) (K11 (j9, j10)) μ6 ν 40 [(0, .ref (q.2.2.1 0)), (1, .int j9), (2, .int j10), (3, .int s3)] []) ?_ (fun K11 hK11 => ?_)
      · intro j9 j10
        refine R_iinc C 3 d_M_worstOf_40 rfl (iinc_v _ (v := 1) (by decide +kernel)) (lv' := [(3, .int (s3 + 1)), (0, .ref (q.2.2.1 0)), (1, .int j9), (2, .int j10)]) (by decide) rfl ?_
        refine R_goto C d_M_worstOf_43 (tgt := 7) (by decide) ?_
        exact R_sub [2, 3, 0, 1] rfl (ih j9 j10 (s3 + 1) μ6)
      · skip
        refine R_jn (fun K8 => R sdM q z 5 (φIm ν) (K8 ()) μ6 ν 35 [(0, .ref (q.2.2.1 0)), (3, .int s3), (4, .int v5)] []) ?_ (fun K8 hK8 => ?_)
        · skip
          refine R_iload_n C 1 d_M_worstOf_35 rfl rfl ?_
          refine R_istore_n C (lv' := [(1, .int s3), (0, .ref (q.2.2.1 0)), (3, .int s3), (4, .int v5)]) d_M_worstOf_36 rfl (by decide) rfl ?_
          refine R_iload C 3 d_M_worstOf_37 rfl ?_
          refine R_istore_n C (lv' := [(2, .int v5), (1, .int s3), (0, .ref (q.2.2.1 0)), (3, .int s3), (4, .int v5)]) d_M_worstOf_39 rfl (by decide) rfl ?_
          exact R_sub [2, 1, 0, 3] rfl (hK11 s3 v5)
        · skip
          refine R_if_lt C d_M_worstOf_23 (tgt := 35) (by decide) ?_ ?_
          · skip
            exact R_sub [4, 3, 0] rfl (hK8)
          · skip
            refine R_iload C 0 d_M_worstOf_26 rfl ?_
            refine R_iload_n C 2 d_M_worstOf_28 rfl rfl ?_
            refine R_icmp_lt C d_M_worstOf_29 (tgt := 35) (by decide) ?_ ?_
            · skip
              exact R_sub [4, 3, 0] rfl (hK8)
            · skip
              refine R_goto C d_M_worstOf_32 (tgt := 40) (by decide) ?_
              exact R_sub [4, 1, 2, 3] rfl (hK11 s1 s2)
theorem d_M_worstOf_46 : decode prog_14_method_71_code 46 = .ok (.iload_n 1, 1) := by decide +kernel
theorem d_M_worstOf_47 : decode prog_14_method_71_code 47 = .ok (.ireturn, 1) := by decide +kernel
set_option maxRecDepth 10000 in
set_option maxHeartbeats 4000000 in
theorem w_M_worstOf {q : QT} {z : ZT} {μ : Mm} {ν : Ml} (C : Ctx sdM q z prog_14_method_71_code "BesideTomModel" 5 7 (some (FieldType.int))) : R sdM q z 5 (φIm ν) (F_M_worstOf μ) μ ν 0 [(0, .ref (q.2.2.1 0))] [] := by
  unfold F_M_worstOf
  refine R_bipush C d_M_worstOf_0 (v := (-5)) (by decide +kernel) ?_
  refine R_istore_n C (lv' := [(1, .int (-5)), (0, .ref (q.2.2.1 0))]) d_M_worstOf_2 rfl (by decide) rfl ?_
  refine R_iconst C d_M_worstOf_3 (v := 0) (by decide +kernel) ?_
  refine R_istore_n C (lv' := [(2, .int 0), (1, .int (-5)), (0, .ref (q.2.2.1 0))]) d_M_worstOf_4 rfl (by decide) rfl ?_
  refine R_iconst C d_M_worstOf_5 (v := 0) (by decide +kernel) ?_
  refine R_istore_n C (lv' := [(3, .int 0), (2, .int 0), (1, .int (-5)), (0, .ref (q.2.2.1 0))]) d_M_worstOf_6 rfl (by decide) rfl ?_
  refine R_sub [2, 1, 0, 3] rfl ?_
  refine W_M_worstOf_7 C ?_ fu _ _ _ _
  intro x12 μ13
  refine R_iload_n C 0 d_M_worstOf_46 rfl rfl ?_
  exact R_iret C rfl d_M_worstOf_47
theorem c_M_worstOf {q : QT} (hg : GOk sdM q) {μ : Mm} {ν : Ml} {o : Int32 × Mm} (ho : F_M_worstOf μ = some o) : Ct sdM q y_M_worstOf prog_14_method_71_code 5 (some (FieldType.int)) 7 [.ref (q.2.2.1 0)] μ ν ((φIm ν) o).1 ((φIm ν) o).2.1 ((φIm ν) o).2.2 := Ct_of rfl hg (fun z C => w_M_worstOf C) (Nat.le_of_ble_eq_true rfl) ho
def F_M_act (a1 : Int32) (a2 : Int32) (a3 : Int32) (μ : Mm) : Option (Int32 × Mm) := lt_ (up2 μ 0 63 0) fun μ1 => (F_M_isPupil a1 μ1).bind fun v2 => (if v2 = 0 then some (0, μ1) else (F_M_in a2 0 2).bind fun v4 => (if v4 = 0 then some (0, μ1) else (if a2 = 0 then (F_M_whispersAct a1 a3 μ1).bind fun p_ => match p_ with | (v12, μ13) => some (v12, μ13) else (if a2 = 1 then (F_M_chatsAct a1 a3 μ1).bind fun p_ => match p_ with | (v9, μ10) => some (v9, μ10) else (F_M_tellsAct a1 a3 μ1).bind fun p_ => match p_ with | (v6, μ7) => some (v6, μ7)))))
theorem d_M_act_0 : decode prog_14_method_100_code 0 = .ok (.aload_n 0, 1) := by decide +kernel
theorem d_M_act_1 : decode prog_14_method_100_code 1 = .ok (.iconst 0, 1) := by decide +kernel
theorem d_M_act_5 : decode prog_14_method_100_code 5 = .ok (.aload_n 0, 1) := by decide +kernel
theorem d_M_act_6 : decode prog_14_method_100_code 6 = .ok (.iload_n 1, 1) := by decide +kernel
theorem d_M_act_7 : decode prog_14_method_100_code 7 = .ok (.invokevirtual 233, 3) := by decide +kernel
theorem d_M_act_23 : decode prog_14_method_100_code 23 = .ok (.iconst 0, 1) := by decide +kernel
theorem d_M_act_24 : decode prog_14_method_100_code 24 = .ok (.ireturn, 1) := by decide +kernel
theorem d_M_act_13 : decode prog_14_method_100_code 13 = .ok (.aload_n 0, 1) := by decide +kernel
theorem d_M_act_14 : decode prog_14_method_100_code 14 = .ok (.iload_n 2, 1) := by decide +kernel
theorem d_M_act_15 : decode prog_14_method_100_code 15 = .ok (.iconst 0, 1) := by decide +kernel
theorem d_M_act_16 : decode prog_14_method_100_code 16 = .ok (.iconst 2, 1) := by decide +kernel
theorem d_M_act_17 : decode prog_14_method_100_code 17 = .ok (.invokevirtual 225, 3) := by decide +kernel
theorem d_M_act_25 : decode prog_14_method_100_code 25 = .ok (.iload_n 2, 1) := by decide +kernel
theorem d_M_act_38 : decode prog_14_method_100_code 38 = .ok (.iload_n 2, 1) := by decide +kernel
theorem d_M_act_39 : decode prog_14_method_100_code 39 = .ok (.iconst 1, 1) := by decide +kernel
theorem d_M_act_52 : decode prog_14_method_100_code 52 = .ok (.aload_n 0, 1) := by decide +kernel
theorem d_M_act_53 : decode prog_14_method_100_code 53 = .ok (.iload_n 1, 1) := by decide +kernel
theorem d_M_act_54 : decode prog_14_method_100_code 54 = .ok (.iload_n 3, 1) := by decide +kernel
theorem d_M_act_55 : decode prog_14_method_100_code 55 = .ok (.invokevirtual 444, 3) := by decide +kernel
theorem d_M_act_58 : decode prog_14_method_100_code 58 = .ok (.ireturn, 1) := by decide +kernel
theorem d_M_act_43 : decode prog_14_method_100_code 43 = .ok (.aload_n 0, 1) := by decide +kernel
theorem d_M_act_44 : decode prog_14_method_100_code 44 = .ok (.iload_n 1, 1) := by decide +kernel
theorem d_M_act_45 : decode prog_14_method_100_code 45 = .ok (.iload_n 3, 1) := by decide +kernel
theorem d_M_act_46 : decode prog_14_method_100_code 46 = .ok (.invokevirtual 438, 3) := by decide +kernel
theorem d_M_act_49 : decode prog_14_method_100_code 49 = .ok (.goto 9, 3) := by decide +kernel
theorem d_M_act_40 : decode prog_14_method_100_code 40 = .ok (.if_icmp .ne 12, 3) := by decide +kernel
theorem d_M_act_29 : decode prog_14_method_100_code 29 = .ok (.aload_n 0, 1) := by decide +kernel
theorem d_M_act_30 : decode prog_14_method_100_code 30 = .ok (.iload_n 1, 1) := by decide +kernel
theorem d_M_act_31 : decode prog_14_method_100_code 31 = .ok (.iload_n 3, 1) := by decide +kernel
theorem d_M_act_32 : decode prog_14_method_100_code 32 = .ok (.invokevirtual 429, 3) := by decide +kernel
theorem d_M_act_35 : decode prog_14_method_100_code 35 = .ok (.goto 23, 3) := by decide +kernel
theorem d_M_act_26 : decode prog_14_method_100_code 26 = .ok (.ifCond .ne 12, 3) := by decide +kernel
theorem d_M_act_20 : decode prog_14_method_100_code 20 = .ok (.ifCond .ne 5, 3) := by decide +kernel
theorem d_M_act_10 : decode prog_14_method_100_code 10 = .ok (.ifCond .eq 13, 3) := by decide +kernel
theorem d_M_act_2 : decode prog_14_method_100_code 2 = .ok (.putfield 202, 3) := by decide +kernel
set_option maxRecDepth 10000 in
set_option maxHeartbeats 4000000 in
theorem w_M_act {q : QT} {z : ZT} {a1 : Int32} {a2 : Int32} {a3 : Int32} {μ : Mm} {ν : Ml} (C : Ctx sdM q z prog_14_method_100_code "BesideTomModel" 4 8 (some (FieldType.int))) : R sdM q z 4 (φIm ν) (F_M_act a1 a2 a3 μ) μ ν 0 [(0, .ref (q.2.2.1 0)), (1, .int a1), (2, .int a2), (3, .int a3)] [] := by
  unfold F_M_act
  refine R_aload_n C 0 d_M_act_0 rfl rfl ?_
  refine R_iconst C d_M_act_1 (v := 0) (by decide +kernel) ?_
  refine pf_M_ran C fl_M_202 d_M_act_2 (fun μ1 => ?_)
  refine R_aload_n C 0 d_M_act_5 rfl rfl ?_
  refine R_iload_n C 1 d_M_act_6 rfl rfl ?_
  refine R_bind (fun v2 h3 => ?_)
  refine R_callV C mm_0 (mc_0 q _ _) rfl cf_M_isPupil rfl ml_M_233 im_M_isPupil sl_M_M_isPupil_M_isPupil (c_M_isPupil (gk C) h3) (by decide) (by decide) rfl rfl (Nat.le_of_ble_eq_true rfl) d_M_act_7 ?_
  refine R_if_eq C d_M_act_10 (tgt := 23) (by decide) ?_ ?_
  · skip
    refine R_iconst C d_M_act_23 (v := 0) (by decide +kernel) ?_
    exact R_iret C rfl d_M_act_24
  · skip
    refine R_aload_n C 0 d_M_act_13 rfl rfl ?_
    refine R_iload_n C 2 d_M_act_14 rfl rfl ?_
    refine R_iconst C d_M_act_15 (v := 0) (by decide +kernel) ?_
    refine R_iconst C d_M_act_16 (v := 2) (by decide +kernel) ?_
    refine R_bind (fun v4 h5 => ?_)
    refine R_callV C mm_0 (mc_0 q _ _) rfl cf_M_in rfl ml_M_225 im_M_in sl_M_M_in_M_in (c_M_in (gk C) h5) (by decide) (by decide) rfl rfl (Nat.le_of_ble_eq_true rfl) d_M_act_17 ?_
    refine R_if_ne C d_M_act_20 (tgt := 25) (by decide) ?_ ?_
    · skip
      refine R_iload_n C 2 d_M_act_25 rfl rfl ?_
      refine R_if_ne C d_M_act_26 (tgt := 38) (by decide) ?_ ?_
      · skip
        refine R_iload_n C 2 d_M_act_38 rfl rfl ?_
        refine R_iconst C d_M_act_39 (v := 1) (by decide +kernel) ?_
        refine R_icmp_ne C d_M_act_40 (tgt := 52) (by decide) ?_ ?_
        · skip
          refine R_aload_n C 0 d_M_act_52 rfl rfl ?_
          refine R_iload_n C 1 d_M_act_53 rfl rfl ?_
          refine R_iload_n C 3 d_M_act_54 rfl rfl ?_
          refine R_bind (fun r_ h8 => ?_)
          obtain ⟨v6, μ7⟩ := r_
          refine R_callV C mm_0 (mc_0 q _ _) rfl cf_M_tellsAct rfl ml_M_444 im_M_tellsAct sl_M_M_tellsAct_M_tellsAct (c_M_tellsAct (gk C) h8) (by decide) (by decide) rfl rfl (Nat.le_of_ble_eq_true rfl) d_M_act_55 ?_
          exact R_iret C rfl d_M_act_58
        · skip
          refine R_aload_n C 0 d_M_act_43 rfl rfl ?_
          refine R_iload_n C 1 d_M_act_44 rfl rfl ?_
          refine R_iload_n C 3 d_M_act_45 rfl rfl ?_
          refine R_bind (fun r_ h11 => ?_)
          obtain ⟨v9, μ10⟩ := r_
          refine R_callV C mm_0 (mc_0 q _ _) rfl cf_M_chatsAct rfl ml_M_438 im_M_chatsAct sl_M_M_chatsAct_M_chatsAct (c_M_chatsAct (gk C) h11) (by decide) (by decide) rfl rfl (Nat.le_of_ble_eq_true rfl) d_M_act_46 ?_
          refine R_goto C d_M_act_49 (tgt := 58) (by decide) ?_
          exact R_iret C rfl d_M_act_58
      · skip
        refine R_aload_n C 0 d_M_act_29 rfl rfl ?_
        refine R_iload_n C 1 d_M_act_30 rfl rfl ?_
        refine R_iload_n C 3 d_M_act_31 rfl rfl ?_
        refine R_bind (fun r_ h14 => ?_)
        obtain ⟨v12, μ13⟩ := r_
        refine R_callV C mm_0 (mc_0 q _ _) rfl cf_M_whispersAct rfl ml_M_429 im_M_whispersAct sl_M_M_whispersAct_M_whispersAct (c_M_whispersAct (gk C) h14) (by decide) (by decide) rfl rfl (Nat.le_of_ble_eq_true rfl) d_M_act_32 ?_
        refine R_goto C d_M_act_35 (tgt := 58) (by decide) ?_
        exact R_iret C rfl d_M_act_58
    · skip
      refine R_iconst C d_M_act_23 (v := 0) (by decide +kernel) ?_
      exact R_iret C rfl d_M_act_24
theorem c_M_act {q : QT} (hg : GOk sdM q) {a1 : Int32} {a2 : Int32} {a3 : Int32} {μ : Mm} {ν : Ml} {o : Int32 × Mm} (ho : F_M_act a1 a2 a3 μ = some o) : Ct sdM q y_M_act prog_14_method_100_code 4 (some (FieldType.int)) 8 [.ref (q.2.2.1 0), .int a1, .int a2, .int a3] μ ν ((φIm ν) o).1 ((φIm ν) o).2.1 ((φIm ν) o).2.2 := Ct_of rfl hg (fun z C => w_M_act C) (Nat.le_of_ble_eq_true rfl) ho
def F_M_best (a1 : Int32) (μ : Mm) : Option (Int32 × Mm) := (if a1 = 0 then (F_M_changeOf μ).bind fun p_ => match p_ with | (v4, μ5) => some (v4, μ5) else (if a1 = 1 then (F_M_worstOf μ).bind fun p_ => match p_ with | (v1, μ2) => some (v1, μ2) else some ((-1), μ)))
theorem d_M_best_0 : decode prog_14_method_72_code 0 = .ok (.iload_n 1, 1) := by decide +kernel
theorem d_M_best_11 : decode prog_14_method_72_code 11 = .ok (.iload_n 1, 1) := by decide +kernel
theorem d_M_best_12 : decode prog_14_method_72_code 12 = .ok (.iconst 1, 1) := by decide +kernel
theorem d_M_best_23 : decode prog_14_method_72_code 23 = .ok (.iconst (-1), 1) := by decide +kernel
theorem d_M_best_24 : decode prog_14_method_72_code 24 = .ok (.ireturn, 1) := by decide +kernel
theorem d_M_best_16 : decode prog_14_method_72_code 16 = .ok (.aload_n 0, 1) := by decide +kernel
theorem d_M_best_17 : decode prog_14_method_72_code 17 = .ok (.invokevirtual 396, 3) := by decide +kernel
theorem d_M_best_20 : decode prog_14_method_72_code 20 = .ok (.goto 4, 3) := by decide +kernel
theorem d_M_best_13 : decode prog_14_method_72_code 13 = .ok (.if_icmp .ne 10, 3) := by decide +kernel
theorem d_M_best_4 : decode prog_14_method_72_code 4 = .ok (.aload_n 0, 1) := by decide +kernel
theorem d_M_best_5 : decode prog_14_method_72_code 5 = .ok (.invokevirtual 393, 3) := by decide +kernel
theorem d_M_best_8 : decode prog_14_method_72_code 8 = .ok (.goto 16, 3) := by decide +kernel
theorem d_M_best_1 : decode prog_14_method_72_code 1 = .ok (.ifCond .ne 10, 3) := by decide +kernel
set_option maxRecDepth 10000 in
set_option maxHeartbeats 4000000 in
theorem w_M_best {q : QT} {z : ZT} {a1 : Int32} {μ : Mm} {ν : Ml} (C : Ctx sdM q z prog_14_method_72_code "BesideTomModel" 2 8 (some (FieldType.int))) : R sdM q z 2 (φIm ν) (F_M_best a1 μ) μ ν 0 [(0, .ref (q.2.2.1 0)), (1, .int a1)] [] := by
  unfold F_M_best
  refine R_iload_n C 1 d_M_best_0 rfl rfl ?_
  refine R_if_ne C d_M_best_1 (tgt := 11) (by decide) ?_ ?_
  · skip
    refine R_iload_n C 1 d_M_best_11 rfl rfl ?_
    refine R_iconst C d_M_best_12 (v := 1) (by decide +kernel) ?_
    refine R_icmp_ne C d_M_best_13 (tgt := 23) (by decide) ?_ ?_
    · skip
      refine R_iconst C d_M_best_23 (v := (-1)) (by decide +kernel) ?_
      exact R_iret C rfl d_M_best_24
    · skip
      refine R_aload_n C 0 d_M_best_16 rfl rfl ?_
      refine R_bind (fun r_ h3 => ?_)
      obtain ⟨v1, μ2⟩ := r_
      refine R_callV C mm_0 (mc_0 q _ _) rfl cf_M_worstOf rfl ml_M_396 im_M_worstOf sl_M_M_worstOf_M_worstOf (c_M_worstOf (gk C) h3) (by decide) (by decide) rfl rfl (Nat.le_of_ble_eq_true rfl) d_M_best_17 ?_
      refine R_goto C d_M_best_20 (tgt := 24) (by decide) ?_
      exact R_iret C rfl d_M_best_24
  · skip
    refine R_aload_n C 0 d_M_best_4 rfl rfl ?_
    refine R_bind (fun r_ h6 => ?_)
    obtain ⟨v4, μ5⟩ := r_
    refine R_callV C mm_0 (mc_0 q _ _) rfl cf_M_changeOf rfl ml_M_393 im_M_changeOf sl_M_M_changeOf_M_changeOf (c_M_changeOf (gk C) h6) (by decide) (by decide) rfl rfl (Nat.le_of_ble_eq_true rfl) d_M_best_5 ?_
    refine R_goto C d_M_best_8 (tgt := 24) (by decide) ?_
    exact R_iret C rfl d_M_best_24
theorem c_M_best {q : QT} (hg : GOk sdM q) {a1 : Int32} {μ : Mm} {ν : Ml} {o : Int32 × Mm} (ho : F_M_best a1 μ = some o) : Ct sdM q y_M_best prog_14_method_72_code 2 (some (FieldType.int)) 8 [.ref (q.2.2.1 0), .int a1] μ ν ((φIm ν) o).1 ((φIm ν) o).2.1 ((φIm ν) o).2.2 := Ct_of rfl hg (fun z C => w_M_best C) (Nat.le_of_ble_eq_true rfl) ho
def F_M_on (a1 : Int32) (a2 : Int32) (μ : Mm) : Option (Int32 × Mm) := (F_M_in a2 0 1).bind fun v1 => jn (α := Unit) (fun K22 => (if v1 = 0 then (F_M_in a2 10 (9 + (μ 0 0))).bind fun v3 => (if v3 = 0 then some ((-1), μ) else K22 ()) else K22 ())) (fun (_ : Unit) => (F_M_isWeeks a1).bind fun v5 => (if v5 = 0 then some ((-2), μ) else (F_M_save μ).bind fun μ7 => (F_M_goWeeks a1 μ7).bind fun μ9 => jn (α := Int32 × Mm) (fun K21 => (if a2 = 0 then (F_M_noise μ9).bind fun p_ => match p_ with | (v14, μ15) => K21 (v14, μ15) else (if a2 = 1 then (F_M_allKnow μ9).bind fun v12 => K21 (v12, μ9) else (rdI (μ9 7) 6 (a2 - 10)).bind fun v11 => K21 (v11, μ9)))) (fun (p_ : Int32 × Mm) => match p_ with | (j17, μ18) => (F_M_putBack μ18).bind fun μ19 => some (j17, μ19))))
theorem d_M_on_0 : decode prog_14_method_61_code 0 = .ok (.aload_n 0, 1) := by decide +kernel
theorem d_M_on_1 : decode prog_14_method_61_code 1 = .ok (.iload_n 2, 1) := by decide +kernel
theorem d_M_on_2 : decode prog_14_method_61_code 2 = .ok (.iconst 0, 1) := by decide +kernel
theorem d_M_on_3 : decode prog_14_method_61_code 3 = .ok (.iconst 1, 1) := by decide +kernel
theorem d_M_on_4 : decode prog_14_method_61_code 4 = .ok (.invokevirtual 225, 3) := by decide +kernel
theorem d_M_on_10 : decode prog_14_method_61_code 10 = .ok (.aload_n 0, 1) := by decide +kernel
theorem d_M_on_11 : decode prog_14_method_61_code 11 = .ok (.iload_n 2, 1) := by decide +kernel
theorem d_M_on_12 : decode prog_14_method_61_code 12 = .ok (.bipush 10, 2) := by decide +kernel
theorem d_M_on_14 : decode prog_14_method_61_code 14 = .ok (.bipush 9, 2) := by decide +kernel
theorem d_M_on_16 : decode prog_14_method_61_code 16 = .ok (.aload_n 0, 1) := by decide +kernel
theorem d_M_on_20 : decode prog_14_method_61_code 20 = .ok (.iadd, 1) := by decide +kernel
theorem d_M_on_21 : decode prog_14_method_61_code 21 = .ok (.invokevirtual 225, 3) := by decide +kernel
theorem d_M_on_27 : decode prog_14_method_61_code 27 = .ok (.iconst (-1), 1) := by decide +kernel
theorem d_M_on_28 : decode prog_14_method_61_code 28 = .ok (.ireturn, 1) := by decide +kernel
theorem d_M_on_24 : decode prog_14_method_61_code 24 = .ok (.ifCond .ne 5, 3) := by decide +kernel
theorem d_M_on_17 : decode prog_14_method_61_code 17 = .ok (.getfield 7, 3) := by decide +kernel
theorem d_M_on_7 : decode prog_14_method_61_code 7 = .ok (.ifCond .ne 22, 3) := by decide +kernel
theorem d_M_on_29 : decode prog_14_method_61_code 29 = .ok (.aload_n 0, 1) := by decide +kernel
theorem d_M_on_30 : decode prog_14_method_61_code 30 = .ok (.iload_n 1, 1) := by decide +kernel
theorem d_M_on_31 : decode prog_14_method_61_code 31 = .ok (.invokevirtual 364, 3) := by decide +kernel
theorem d_M_on_40 : decode prog_14_method_61_code 40 = .ok (.aload_n 0, 1) := by decide +kernel
theorem d_M_on_41 : decode prog_14_method_61_code 41 = .ok (.invokevirtual 371, 3) := by decide +kernel
theorem d_M_on_44 : decode prog_14_method_61_code 44 = .ok (.aload_n 0, 1) := by decide +kernel
theorem d_M_on_45 : decode prog_14_method_61_code 45 = .ok (.iload_n 1, 1) := by decide +kernel
theorem d_M_on_46 : decode prog_14_method_61_code 46 = .ok (.invokevirtual 367, 3) := by decide +kernel
theorem d_M_on_49 : decode prog_14_method_61_code 49 = .ok (.iload_n 2, 1) := by decide +kernel
theorem d_M_on_60 : decode prog_14_method_61_code 60 = .ok (.iload_n 2, 1) := by decide +kernel
theorem d_M_on_61 : decode prog_14_method_61_code 61 = .ok (.iconst 1, 1) := by decide +kernel
theorem d_M_on_72 : decode prog_14_method_61_code 72 = .ok (.aload_n 0, 1) := by decide +kernel
theorem d_M_on_76 : decode prog_14_method_61_code 76 = .ok (.iload_n 2, 1) := by decide +kernel
theorem d_M_on_77 : decode prog_14_method_61_code 77 = .ok (.bipush 10, 2) := by decide +kernel
theorem d_M_on_79 : decode prog_14_method_61_code 79 = .ok (.isub, 1) := by decide +kernel
theorem d_M_on_73 : decode prog_14_method_61_code 73 = .ok (.getfield 32, 3) := by decide +kernel
theorem d_M_on_65 : decode prog_14_method_61_code 65 = .ok (.aload_n 0, 1) := by decide +kernel
theorem d_M_on_66 : decode prog_14_method_61_code 66 = .ok (.invokevirtual 352, 3) := by decide +kernel
theorem d_M_on_69 : decode prog_14_method_61_code 69 = .ok (.goto 12, 3) := by decide +kernel
theorem d_M_on_62 : decode prog_14_method_61_code 62 = .ok (.if_icmp .ne 10, 3) := by decide +kernel
theorem d_M_on_53 : decode prog_14_method_61_code 53 = .ok (.aload_n 0, 1) := by decide +kernel
theorem d_M_on_54 : decode prog_14_method_61_code 54 = .ok (.invokevirtual 251, 3) := by decide +kernel
theorem d_M_on_57 : decode prog_14_method_61_code 57 = .ok (.goto 24, 3) := by decide +kernel
theorem d_M_on_50 : decode prog_14_method_61_code 50 = .ok (.ifCond .ne 10, 3) := by decide +kernel
theorem d_M_on_81 : decode prog_14_method_61_code 81 = .ok (.istore_n 3, 1) := by decide +kernel
theorem d_M_on_82 : decode prog_14_method_61_code 82 = .ok (.aload_n 0, 1) := by decide +kernel
theorem d_M_on_83 : decode prog_14_method_61_code 83 = .ok (.invokevirtual 374, 3) := by decide +kernel
theorem d_M_on_86 : decode prog_14_method_61_code 86 = .ok (.iload_n 3, 1) := by decide +kernel
theorem d_M_on_87 : decode prog_14_method_61_code 87 = .ok (.ireturn, 1) := by decide +kernel
theorem d_M_on_37 : decode prog_14_method_61_code 37 = .ok (.bipush (-2), 2) := by decide +kernel
theorem d_M_on_39 : decode prog_14_method_61_code 39 = .ok (.ireturn, 1) := by decide +kernel
theorem d_M_on_34 : decode prog_14_method_61_code 34 = .ok (.ifCond .ne 6, 3) := by decide +kernel
theorem d_M_on_80 : decode prog_14_method_61_code 80 = .ok (.iaload, 1) := by decide +kernel
set_option maxRecDepth 10000 in
set_option maxHeartbeats 4000000 in
theorem w_M_on {q : QT} {z : ZT} {a1 : Int32} {a2 : Int32} {μ : Mm} {ν : Ml} (C : Ctx sdM q z prog_14_method_61_code "BesideTomModel" 4 8 (some (FieldType.int))) : R sdM q z 4 (φIm ν) (F_M_on a1 a2 μ) μ ν 0 [(0, .ref (q.2.2.1 0)), (1, .int a1), (2, .int a2)] [] := by
  unfold F_M_on
  refine R_aload_n C 0 d_M_on_0 rfl rfl ?_
  refine R_iload_n C 2 d_M_on_1 rfl rfl ?_
  refine R_iconst C d_M_on_2 (v := 0) (by decide +kernel) ?_
  refine R_iconst C d_M_on_3 (v := 1) (by decide +kernel) ?_
  refine R_bind (fun v1 h2 => ?_)
  refine R_callV C mm_0 (mc_0 q _ _) rfl cf_M_in rfl ml_M_225 im_M_in sl_M_M_in_M_in (c_M_in (gk C) h2) (by decide) (by decide) rfl rfl (Nat.le_of_ble_eq_true rfl) d_M_on_4 ?_
  refine R_jn (fun K22 => R sdM q z 4 (φIm ν) (K22 ()) μ ν 29 [(0, .ref (q.2.2.1 0)), (1, .int a1), (2, .int a2)] []) ?_ (fun K22 hK22 => ?_)
  · skip
    refine R_aload_n C 0 d_M_on_29 rfl rfl ?_
    refine R_iload_n C 1 d_M_on_30 rfl rfl ?_
    refine R_bind (fun v5 h6 => ?_)
    refine R_callV C mm_0 (mc_0 q _ _) rfl cf_M_isWeeks rfl ml_M_364 im_M_isWeeks sl_M_M_isWeeks_M_isWeeks (c_M_isWeeks (gk C) h6) (by decide) (by decide) rfl rfl (Nat.le_of_ble_eq_true rfl) d_M_on_31 ?_
    refine R_if_ne C d_M_on_34 (tgt := 40) (by decide) ?_ ?_
    · skip
      refine R_aload_n C 0 d_M_on_40 rfl rfl ?_
      refine R_bind (fun μ7 h8 => ?_)
      refine R_callV C mm_0 (mc_0 q _ _) rfl cf_M_save rfl ml_M_371 im_M_save sl_M_M_save_M_save (c_M_save (gk C) h8) (by decide) (by decide) rfl rfl (Nat.le_of_ble_eq_true rfl) d_M_on_41 ?_
      refine R_aload_n C 0 d_M_on_44 rfl rfl ?_
      refine R_iload_n C 1 d_M_on_45 rfl rfl ?_
      refine R_bind (fun μ9 h10 => ?_)
      refine R_callV C mm_0 (mc_0 q _ _) rfl cf_M_goWeeks rfl ml_M_367 im_M_goWeeks sl_M_M_goWeeks_M_goWeeks (c_M_goWeeks (gk C) h10) (by decide) (by decide) rfl rfl (Nat.le_of_ble_eq_true rfl) d_M_on_46 ?_
      refine R_iload_n C 2 d_M_on_49 rfl rfl ?_
      refine R_jn (fun K21 => ∀ (j17 : Int32) (μ18 : Mm), R sdM q z 4 (φIm ν) (K21 (j17, μ18)) μ18 ν 81 [(0, .ref (q.2.2.1 0))] [.int j17]) ?_ (fun K21 hK21 => ?_)
      · intro j17 μ18
        refine R_istore_n C (lv' := [(3, .int j17), (0, .ref (q.2.2.1 0))]) d_M_on_81 rfl (by decide) rfl ?_
        refine R_aload_n C 1 d_M_on_82 rfl rfl ?_
        refine R_bind (fun μ19 h20 => ?_)
        refine R_callV C mm_0 (mc_0 q _ _) rfl cf_M_putBack rfl ml_M_374 im_M_putBack sl_M_M_putBack_M_putBack (c_M_putBack (gk C) h20) (by decide) (by decide) rfl rfl (Nat.le_of_ble_eq_true rfl) d_M_on_83 ?_
        refine R_iload_n C 0 d_M_on_86 rfl rfl ?_
        exact R_iret C rfl d_M_on_87
      · skip
        refine R_if_ne C d_M_on_50 (tgt := 60) (by decide) ?_ ?_
        · skip
          refine R_iload_n C 2 d_M_on_60 rfl rfl ?_
          refine R_iconst C d_M_on_61 (v := 1) (by decide +kernel) ?_
          refine R_icmp_ne C d_M_on_62 (tgt := 72) (by decide) ?_ ?_
          · skip
            refine R_aload_n C 0 d_M_on_72 rfl rfl ?_
            refine gf_M_knew C fl_M_32 d_M_on_73 ?_
            refine R_iload_n C 2 d_M_on_76 rfl rfl ?_
            refine R_bipush C d_M_on_77 (v := 10) (by decide +kernel) ?_
            refine R_isub C d_M_on_79 ?_
            refine R_iald C mm_7 (mc_7 q _ _) d_M_on_80 (fun v11 => ?_)
            exact R_sub [0] rfl (hK21 v11 μ9)
          · skip
            refine R_aload_n C 0 d_M_on_65 rfl rfl ?_
            refine R_bind (fun v12 h13 => ?_)
            refine R_callV C mm_0 (mc_0 q _ _) rfl cf_M_allKnow rfl ml_M_352 im_M_allKnow sl_M_M_allKnow_M_allKnow (c_M_allKnow (gk C) h13) (by decide) (by decide) rfl rfl (Nat.le_of_ble_eq_true rfl) d_M_on_66 ?_
            refine R_goto C d_M_on_69 (tgt := 81) (by decide) ?_
            exact R_sub [0] rfl (hK21 v12 μ9)
        · skip
          refine R_aload_n C 0 d_M_on_53 rfl rfl ?_
          refine R_bind (fun r_ h16 => ?_)
          obtain ⟨v14, μ15⟩ := r_
          refine R_callV C mm_0 (mc_0 q _ _) rfl cf_M_noise rfl ml_M_251 im_M_noise sl_M_M_noise_M_noise (c_M_noise (gk C) h16) (by decide) (by decide) rfl rfl (Nat.le_of_ble_eq_true rfl) d_M_on_54 ?_
          refine R_goto C d_M_on_57 (tgt := 81) (by decide) ?_
          exact R_sub [0] rfl (hK21 v14 μ15)
    · skip
      refine R_bipush C d_M_on_37 (v := (-2)) (by decide +kernel) ?_
      exact R_iret C rfl d_M_on_39
  · skip
    refine R_if_ne C d_M_on_7 (tgt := 29) (by decide) ?_ ?_
    · skip
      exact R_sub [0, 1, 2] rfl (hK22)
    · skip
      refine R_aload_n C 0 d_M_on_10 rfl rfl ?_
      refine R_iload_n C 2 d_M_on_11 rfl rfl ?_
      refine R_bipush C d_M_on_12 (v := 10) (by decide +kernel) ?_
      refine R_bipush C d_M_on_14 (v := 9) (by decide +kernel) ?_
      refine R_aload_n C 0 d_M_on_16 rfl rfl ?_
      refine gf_M_pupils C fl_M_7 d_M_on_17 ?_
      refine R_iadd C d_M_on_20 ?_
      refine R_bind (fun v3 h4 => ?_)
      refine R_callV C mm_0 (mc_0 q _ _) rfl cf_M_in rfl ml_M_225 im_M_in sl_M_M_in_M_in (c_M_in (gk C) h4) (by decide) (by decide) rfl rfl (Nat.le_of_ble_eq_true rfl) d_M_on_21 ?_
      refine R_if_ne C d_M_on_24 (tgt := 29) (by decide) ?_ ?_
      · skip
        exact R_sub [0, 1, 2] rfl (hK22)
      · skip
        refine R_iconst C d_M_on_27 (v := (-1)) (by decide +kernel) ?_
        exact R_iret C rfl d_M_on_28
theorem c_M_on {q : QT} (hg : GOk sdM q) {a1 : Int32} {a2 : Int32} {μ : Mm} {ν : Ml} {o : Int32 × Mm} (ho : F_M_on a1 a2 μ = some o) : Ct sdM q y_M_on prog_14_method_61_code 4 (some (FieldType.int)) 8 [.ref (q.2.2.1 0), .int a1, .int a2] μ ν ((φIm ν) o).1 ((φIm ν) o).2.1 ((φIm ν) o).2.2 := Ct_of rfl hg (fun z C => w_M_on C) (Nat.le_of_ble_eq_true rfl) ho
def F_M_pass (a1 : Int32) (μ : Mm) : Option (Int32 × Mm) := (F_M_isWeeks a1).bind fun v1 => (if v1 = 0 then some ((-2), μ) else (if ((μ 0 3) + a1) ≤ 9999 then (F_M_goWeeks a1 μ).bind fun μ3 => (F_M_noise μ3).bind fun p_ => match p_ with | (v5, μ6) => some (v5, μ6) else some ((-3), μ)))
theorem d_M_pass_0 : decode prog_14_method_58_code 0 = .ok (.aload_n 0, 1) := by decide +kernel
theorem d_M_pass_1 : decode prog_14_method_58_code 1 = .ok (.iload_n 1, 1) := by decide +kernel
theorem d_M_pass_2 : decode prog_14_method_58_code 2 = .ok (.invokevirtual 364, 3) := by decide +kernel
theorem d_M_pass_11 : decode prog_14_method_58_code 11 = .ok (.aload_n 0, 1) := by decide +kernel
theorem d_M_pass_15 : decode prog_14_method_58_code 15 = .ok (.iload_n 1, 1) := by decide +kernel
theorem d_M_pass_16 : decode prog_14_method_58_code 16 = .ok (.iadd, 1) := by decide +kernel
theorem d_M_pass_17 : decode prog_14_method_58_code 17 = .ok (.sipush 9999, 3) := by decide +kernel
theorem d_M_pass_26 : decode prog_14_method_58_code 26 = .ok (.aload_n 0, 1) := by decide +kernel
theorem d_M_pass_27 : decode prog_14_method_58_code 27 = .ok (.iload_n 1, 1) := by decide +kernel
theorem d_M_pass_28 : decode prog_14_method_58_code 28 = .ok (.invokevirtual 367, 3) := by decide +kernel
theorem d_M_pass_31 : decode prog_14_method_58_code 31 = .ok (.aload_n 0, 1) := by decide +kernel
theorem d_M_pass_32 : decode prog_14_method_58_code 32 = .ok (.invokevirtual 251, 3) := by decide +kernel
theorem d_M_pass_35 : decode prog_14_method_58_code 35 = .ok (.ireturn, 1) := by decide +kernel
theorem d_M_pass_23 : decode prog_14_method_58_code 23 = .ok (.bipush (-3), 2) := by decide +kernel
theorem d_M_pass_25 : decode prog_14_method_58_code 25 = .ok (.ireturn, 1) := by decide +kernel
theorem d_M_pass_20 : decode prog_14_method_58_code 20 = .ok (.if_icmp .le 6, 3) := by decide +kernel
theorem d_M_pass_12 : decode prog_14_method_58_code 12 = .ok (.getfield 19, 3) := by decide +kernel
theorem d_M_pass_8 : decode prog_14_method_58_code 8 = .ok (.bipush (-2), 2) := by decide +kernel
theorem d_M_pass_10 : decode prog_14_method_58_code 10 = .ok (.ireturn, 1) := by decide +kernel
theorem d_M_pass_5 : decode prog_14_method_58_code 5 = .ok (.ifCond .ne 6, 3) := by decide +kernel
set_option maxRecDepth 10000 in
set_option maxHeartbeats 4000000 in
theorem w_M_pass {q : QT} {z : ZT} {a1 : Int32} {μ : Mm} {ν : Ml} (C : Ctx sdM q z prog_14_method_58_code "BesideTomModel" 2 8 (some (FieldType.int))) : R sdM q z 2 (φIm ν) (F_M_pass a1 μ) μ ν 0 [(0, .ref (q.2.2.1 0)), (1, .int a1)] [] := by
  unfold F_M_pass
  refine R_aload_n C 0 d_M_pass_0 rfl rfl ?_
  refine R_iload_n C 1 d_M_pass_1 rfl rfl ?_
  refine R_bind (fun v1 h2 => ?_)
  refine R_callV C mm_0 (mc_0 q _ _) rfl cf_M_isWeeks rfl ml_M_364 im_M_isWeeks sl_M_M_isWeeks_M_isWeeks (c_M_isWeeks (gk C) h2) (by decide) (by decide) rfl rfl (Nat.le_of_ble_eq_true rfl) d_M_pass_2 ?_
  refine R_if_ne C d_M_pass_5 (tgt := 11) (by decide) ?_ ?_
  · skip
    refine R_aload_n C 0 d_M_pass_11 rfl rfl ?_
    refine gf_M_weeks C fl_M_19 d_M_pass_12 ?_
    refine R_iload_n C 1 d_M_pass_15 rfl rfl ?_
    refine R_iadd C d_M_pass_16 ?_
    refine R_sipush C d_M_pass_17 (v := 9999) (by decide +kernel) ?_
    refine R_icmp_le C d_M_pass_20 (tgt := 26) (by decide) ?_ ?_
    · skip
      refine R_aload_n C 0 d_M_pass_26 rfl rfl ?_
      refine R_iload_n C 1 d_M_pass_27 rfl rfl ?_
      refine R_bind (fun μ3 h4 => ?_)
      refine R_callV C mm_0 (mc_0 q _ _) rfl cf_M_goWeeks rfl ml_M_367 im_M_goWeeks sl_M_M_goWeeks_M_goWeeks (c_M_goWeeks (gk C) h4) (by decide) (by decide) rfl rfl (Nat.le_of_ble_eq_true rfl) d_M_pass_28 ?_
      refine R_aload_n C 0 d_M_pass_31 rfl rfl ?_
      refine R_bind (fun r_ h7 => ?_)
      obtain ⟨v5, μ6⟩ := r_
      refine R_callV C mm_0 (mc_0 q _ _) rfl cf_M_noise rfl ml_M_251 im_M_noise sl_M_M_noise_M_noise (c_M_noise (gk C) h7) (by decide) (by decide) rfl rfl (Nat.le_of_ble_eq_true rfl) d_M_pass_32 ?_
      exact R_iret C rfl d_M_pass_35
    · skip
      refine R_bipush C d_M_pass_23 (v := (-3)) (by decide +kernel) ?_
      exact R_iret C rfl d_M_pass_25
  · skip
    refine R_bipush C d_M_pass_8 (v := (-2)) (by decide +kernel) ?_
    exact R_iret C rfl d_M_pass_10
theorem c_M_pass {q : QT} (hg : GOk sdM q) {a1 : Int32} {μ : Mm} {ν : Ml} {o : Int32 × Mm} (ho : F_M_pass a1 μ = some o) : Ct sdM q y_M_pass prog_14_method_58_code 2 (some (FieldType.int)) 8 [.ref (q.2.2.1 0), .int a1] μ ν ((φIm ν) o).1 ((φIm ν) o).2.1 ((φIm ν) o).2.2 := Ct_of rfl hg (fun z C => w_M_pass C) (Nat.le_of_ble_eq_true rfl) ho
def F_M_quietest (a1 : Int32) (μ : Mm) : Option (Int32 × Mm) := jn (α := Unit) (fun K7 => (if a1 = 0 then K7 () else (F_M_in a1 10 (9 + (μ 0 0))).bind fun v1 => (if v1 = 0 then some ((-1), μ) else K7 ()))) (fun (_ : Unit) => (F_M_layBest 1 μ).bind fun p_ => match p_ with | (v3, μ4) => (if a1 = 0 then some (v3, μ4) else (rdI (μ4 33) 6 (a1 - 10)).bind fun v6 => some (v6, μ4)))
theorem d_M_quietest_0 : decode prog_14_method_65_code 0 = .ok (.iload_n 1, 1) := by decide +kernel
theorem d_M_quietest_4 : decode prog_14_method_65_code 4 = .ok (.aload_n 0, 1) := by decide +kernel
theorem d_M_quietest_5 : decode prog_14_method_65_code 5 = .ok (.iload_n 1, 1) := by decide +kernel
theorem d_M_quietest_6 : decode prog_14_method_65_code 6 = .ok (.bipush 10, 2) := by decide +kernel
theorem d_M_quietest_8 : decode prog_14_method_65_code 8 = .ok (.bipush 9, 2) := by decide +kernel
theorem d_M_quietest_10 : decode prog_14_method_65_code 10 = .ok (.aload_n 0, 1) := by decide +kernel
theorem d_M_quietest_14 : decode prog_14_method_65_code 14 = .ok (.iadd, 1) := by decide +kernel
theorem d_M_quietest_15 : decode prog_14_method_65_code 15 = .ok (.invokevirtual 225, 3) := by decide +kernel
theorem d_M_quietest_21 : decode prog_14_method_65_code 21 = .ok (.iconst (-1), 1) := by decide +kernel
theorem d_M_quietest_22 : decode prog_14_method_65_code 22 = .ok (.ireturn, 1) := by decide +kernel
theorem d_M_quietest_18 : decode prog_14_method_65_code 18 = .ok (.ifCond .ne 5, 3) := by decide +kernel
theorem d_M_quietest_11 : decode prog_14_method_65_code 11 = .ok (.getfield 7, 3) := by decide +kernel
theorem d_M_quietest_1 : decode prog_14_method_65_code 1 = .ok (.ifCond .eq 22, 3) := by decide +kernel
theorem d_M_quietest_23 : decode prog_14_method_65_code 23 = .ok (.aload_n 0, 1) := by decide +kernel
theorem d_M_quietest_24 : decode prog_14_method_65_code 24 = .ok (.iconst 1, 1) := by decide +kernel
theorem d_M_quietest_25 : decode prog_14_method_65_code 25 = .ok (.invokevirtual 383, 3) := by decide +kernel
theorem d_M_quietest_28 : decode prog_14_method_65_code 28 = .ok (.istore_n 2, 1) := by decide +kernel
theorem d_M_quietest_29 : decode prog_14_method_65_code 29 = .ok (.iload_n 1, 1) := by decide +kernel
theorem d_M_quietest_37 : decode prog_14_method_65_code 37 = .ok (.aload_n 0, 1) := by decide +kernel
theorem d_M_quietest_41 : decode prog_14_method_65_code 41 = .ok (.iload_n 1, 1) := by decide +kernel
theorem d_M_quietest_42 : decode prog_14_method_65_code 42 = .ok (.bipush 10, 2) := by decide +kernel
theorem d_M_quietest_44 : decode prog_14_method_65_code 44 = .ok (.isub, 1) := by decide +kernel
theorem d_M_quietest_46 : decode prog_14_method_65_code 46 = .ok (.ireturn, 1) := by decide +kernel
theorem d_M_quietest_38 : decode prog_14_method_65_code 38 = .ok (.getfield 111, 3) := by decide +kernel
theorem d_M_quietest_33 : decode prog_14_method_65_code 33 = .ok (.iload_n 2, 1) := by decide +kernel
theorem d_M_quietest_34 : decode prog_14_method_65_code 34 = .ok (.goto 12, 3) := by decide +kernel
theorem d_M_quietest_30 : decode prog_14_method_65_code 30 = .ok (.ifCond .ne 7, 3) := by decide +kernel
theorem d_M_quietest_45 : decode prog_14_method_65_code 45 = .ok (.iaload, 1) := by decide +kernel
set_option maxRecDepth 10000 in
set_option maxHeartbeats 4000000 in
theorem w_M_quietest {q : QT} {z : ZT} {a1 : Int32} {μ : Mm} {ν : Ml} (C : Ctx sdM q z prog_14_method_65_code "BesideTomModel" 3 8 (some (FieldType.int))) : R sdM q z 3 (φIm ν) (F_M_quietest a1 μ) μ ν 0 [(0, .ref (q.2.2.1 0)), (1, .int a1)] [] := by
  unfold F_M_quietest
  refine R_iload_n C 1 d_M_quietest_0 rfl rfl ?_
  refine R_jn (fun K7 => R sdM q z 3 (φIm ν) (K7 ()) μ ν 23 [(0, .ref (q.2.2.1 0)), (1, .int a1)] []) ?_ (fun K7 hK7 => ?_)
  · skip
    refine R_aload_n C 0 d_M_quietest_23 rfl rfl ?_
    refine R_iconst C d_M_quietest_24 (v := 1) (by decide +kernel) ?_
    refine R_bind (fun r_ h5 => ?_)
    obtain ⟨v3, μ4⟩ := r_
    refine R_callV C mm_0 (mc_0 q _ _) rfl cf_M_layBest rfl ml_M_383 im_M_layBest sl_M_M_layBest_M_layBest (c_M_layBest (gk C) h5) (by decide) (by decide) rfl rfl (Nat.le_of_ble_eq_true rfl) d_M_quietest_25 ?_
    refine R_istore_n C (lv' := [(2, .int v3), (0, .ref (q.2.2.1 0)), (1, .int a1)]) d_M_quietest_28 rfl (by decide) rfl ?_
    refine R_iload_n C 2 d_M_quietest_29 rfl rfl ?_
    refine R_if_ne C d_M_quietest_30 (tgt := 37) (by decide) ?_ ?_
    · skip
      refine R_aload_n C 1 d_M_quietest_37 rfl rfl ?_
      refine gf_M_bestDesk C fl_M_111 d_M_quietest_38 ?_
      refine R_iload_n C 2 d_M_quietest_41 rfl rfl ?_
      refine R_bipush C d_M_quietest_42 (v := 10) (by decide +kernel) ?_
      refine R_isub C d_M_quietest_44 ?_
      refine R_iald C mm_33 (mc_33 q _ _) d_M_quietest_45 (fun v6 => ?_)
      exact R_iret C rfl d_M_quietest_46
    · skip
      refine R_iload_n C 0 d_M_quietest_33 rfl rfl ?_
      refine R_goto C d_M_quietest_34 (tgt := 46) (by decide) ?_
      exact R_iret C rfl d_M_quietest_46
  · skip
    refine R_if_eq C d_M_quietest_1 (tgt := 23) (by decide) ?_ ?_
    · skip
      exact R_sub [0, 1] rfl (hK7)
    · skip
      refine R_aload_n C 0 d_M_quietest_4 rfl rfl ?_
      refine R_iload_n C 1 d_M_quietest_5 rfl rfl ?_
      refine R_bipush C d_M_quietest_6 (v := 10) (by decide +kernel) ?_
      refine R_bipush C d_M_quietest_8 (v := 9) (by decide +kernel) ?_
      refine R_aload_n C 0 d_M_quietest_10 rfl rfl ?_
      refine gf_M_pupils C fl_M_7 d_M_quietest_11 ?_
      refine R_iadd C d_M_quietest_14 ?_
      refine R_bind (fun v1 h2 => ?_)
      refine R_callV C mm_0 (mc_0 q _ _) rfl cf_M_in rfl ml_M_225 im_M_in sl_M_M_in_M_in (c_M_in (gk C) h2) (by decide) (by decide) rfl rfl (Nat.le_of_ble_eq_true rfl) d_M_quietest_15 ?_
      refine R_if_ne C d_M_quietest_18 (tgt := 23) (by decide) ?_ ?_
      · skip
        exact R_sub [0, 1] rfl (hK7)
      · skip
        refine R_iconst C d_M_quietest_21 (v := (-1)) (by decide +kernel) ?_
        exact R_iret C rfl d_M_quietest_22
theorem c_M_quietest {q : QT} (hg : GOk sdM q) {a1 : Int32} {μ : Mm} {ν : Ml} {o : Int32 × Mm} (ho : F_M_quietest a1 μ = some o) : Ct sdM q y_M_quietest prog_14_method_65_code 3 (some (FieldType.int)) 8 [.ref (q.2.2.1 0), .int a1] μ ν ((φIm ν) o).1 ((φIm ν) o).2.1 ((φIm ν) o).2.2 := Ct_of rfl hg (fun z C => w_M_quietest C) (Nat.le_of_ble_eq_true rfl) ho
def F_M_wisest (a1 : Int32) (μ : Mm) : Option (Int32 × Mm) := jn (α := Unit) (fun K7 => (if a1 = 0 then K7 () else (F_M_in a1 10 (9 + (μ 0 0))).bind fun v1 => (if v1 = 0 then some ((-1), μ) else K7 ()))) (fun (_ : Unit) => (F_M_layBest 0 μ).bind fun p_ => match p_ with | (v3, μ4) => (if a1 = 0 then some (v3, μ4) else (rdI (μ4 33) 6 (a1 - 10)).bind fun v6 => some (v6, μ4)))
theorem d_M_wisest_0 : decode prog_14_method_66_code 0 = .ok (.iload_n 1, 1) := by decide +kernel
theorem d_M_wisest_4 : decode prog_14_method_66_code 4 = .ok (.aload_n 0, 1) := by decide +kernel
theorem d_M_wisest_5 : decode prog_14_method_66_code 5 = .ok (.iload_n 1, 1) := by decide +kernel
theorem d_M_wisest_6 : decode prog_14_method_66_code 6 = .ok (.bipush 10, 2) := by decide +kernel
theorem d_M_wisest_8 : decode prog_14_method_66_code 8 = .ok (.bipush 9, 2) := by decide +kernel
theorem d_M_wisest_10 : decode prog_14_method_66_code 10 = .ok (.aload_n 0, 1) := by decide +kernel
theorem d_M_wisest_14 : decode prog_14_method_66_code 14 = .ok (.iadd, 1) := by decide +kernel
theorem d_M_wisest_15 : decode prog_14_method_66_code 15 = .ok (.invokevirtual 225, 3) := by decide +kernel
theorem d_M_wisest_21 : decode prog_14_method_66_code 21 = .ok (.iconst (-1), 1) := by decide +kernel
theorem d_M_wisest_22 : decode prog_14_method_66_code 22 = .ok (.ireturn, 1) := by decide +kernel
theorem d_M_wisest_18 : decode prog_14_method_66_code 18 = .ok (.ifCond .ne 5, 3) := by decide +kernel
theorem d_M_wisest_11 : decode prog_14_method_66_code 11 = .ok (.getfield 7, 3) := by decide +kernel
theorem d_M_wisest_1 : decode prog_14_method_66_code 1 = .ok (.ifCond .eq 22, 3) := by decide +kernel
theorem d_M_wisest_23 : decode prog_14_method_66_code 23 = .ok (.aload_n 0, 1) := by decide +kernel
theorem d_M_wisest_24 : decode prog_14_method_66_code 24 = .ok (.iconst 0, 1) := by decide +kernel
theorem d_M_wisest_25 : decode prog_14_method_66_code 25 = .ok (.invokevirtual 383, 3) := by decide +kernel
theorem d_M_wisest_28 : decode prog_14_method_66_code 28 = .ok (.istore_n 2, 1) := by decide +kernel
theorem d_M_wisest_29 : decode prog_14_method_66_code 29 = .ok (.iload_n 1, 1) := by decide +kernel
theorem d_M_wisest_37 : decode prog_14_method_66_code 37 = .ok (.aload_n 0, 1) := by decide +kernel
theorem d_M_wisest_41 : decode prog_14_method_66_code 41 = .ok (.iload_n 1, 1) := by decide +kernel
theorem d_M_wisest_42 : decode prog_14_method_66_code 42 = .ok (.bipush 10, 2) := by decide +kernel
theorem d_M_wisest_44 : decode prog_14_method_66_code 44 = .ok (.isub, 1) := by decide +kernel
theorem d_M_wisest_46 : decode prog_14_method_66_code 46 = .ok (.ireturn, 1) := by decide +kernel
theorem d_M_wisest_38 : decode prog_14_method_66_code 38 = .ok (.getfield 111, 3) := by decide +kernel
theorem d_M_wisest_33 : decode prog_14_method_66_code 33 = .ok (.iload_n 2, 1) := by decide +kernel
theorem d_M_wisest_34 : decode prog_14_method_66_code 34 = .ok (.goto 12, 3) := by decide +kernel
theorem d_M_wisest_30 : decode prog_14_method_66_code 30 = .ok (.ifCond .ne 7, 3) := by decide +kernel
theorem d_M_wisest_45 : decode prog_14_method_66_code 45 = .ok (.iaload, 1) := by decide +kernel
set_option maxRecDepth 10000 in
set_option maxHeartbeats 4000000 in
theorem w_M_wisest {q : QT} {z : ZT} {a1 : Int32} {μ : Mm} {ν : Ml} (C : Ctx sdM q z prog_14_method_66_code "BesideTomModel" 3 8 (some (FieldType.int))) : R sdM q z 3 (φIm ν) (F_M_wisest a1 μ) μ ν 0 [(0, .ref (q.2.2.1 0)), (1, .int a1)] [] := by
  unfold F_M_wisest
  refine R_iload_n C 1 d_M_wisest_0 rfl rfl ?_
  refine R_jn (fun K7 => R sdM q z 3 (φIm ν) (K7 ()) μ ν 23 [(0, .ref (q.2.2.1 0)), (1, .int a1)] []) ?_ (fun K7 hK7 => ?_)
  · skip
    refine R_aload_n C 0 d_M_wisest_23 rfl rfl ?_
    refine R_iconst C d_M_wisest_24 (v := 0) (by decide +kernel) ?_
    refine R_bind (fun r_ h5 => ?_)
    obtain ⟨v3, μ4⟩ := r_
    refine R_callV C mm_0 (mc_0 q _ _) rfl cf_M_layBest rfl ml_M_383 im_M_layBest sl_M_M_layBest_M_layBest (c_M_layBest (gk C) h5) (by decide) (by decide) rfl rfl (Nat.le_of_ble_eq_true rfl) d_M_wisest_25 ?_
    refine R_istore_n C (lv' := [(2, .int v3), (0, .ref (q.2.2.1 0)), (1, .int a1)]) d_M_wisest_28 rfl (by decide) rfl ?_
    refine R_iload_n C 2 d_M_wisest_29 rfl rfl ?_
    refine R_if_ne C d_M_wisest_30 (tgt := 37) (by decide) ?_ ?_
    · skip
      refine R_aload_n C 1 d_M_wisest_37 rfl rfl ?_
      refine gf_M_bestDesk C fl_M_111 d_M_wisest_38 ?_
      refine R_iload_n C 2 d_M_wisest_41 rfl rfl ?_
      refine R_bipush C d_M_wisest_42 (v := 10) (by decide +kernel) ?_
      refine R_isub C d_M_wisest_44 ?_
      refine R_iald C mm_33 (mc_33 q _ _) d_M_wisest_45 (fun v6 => ?_)
      exact R_iret C rfl d_M_wisest_46
    · skip
      refine R_iload_n C 0 d_M_wisest_33 rfl rfl ?_
      refine R_goto C d_M_wisest_34 (tgt := 46) (by decide) ?_
      exact R_iret C rfl d_M_wisest_46
  · skip
    refine R_if_eq C d_M_wisest_1 (tgt := 23) (by decide) ?_ ?_
    · skip
      exact R_sub [0, 1] rfl (hK7)
    · skip
      refine R_aload_n C 0 d_M_wisest_4 rfl rfl ?_
      refine R_iload_n C 1 d_M_wisest_5 rfl rfl ?_
      refine R_bipush C d_M_wisest_6 (v := 10) (by decide +kernel) ?_
      refine R_bipush C d_M_wisest_8 (v := 9) (by decide +kernel) ?_
      refine R_aload_n C 0 d_M_wisest_10 rfl rfl ?_
      refine gf_M_pupils C fl_M_7 d_M_wisest_11 ?_
      refine R_iadd C d_M_wisest_14 ?_
      refine R_bind (fun v1 h2 => ?_)
      refine R_callV C mm_0 (mc_0 q _ _) rfl cf_M_in rfl ml_M_225 im_M_in sl_M_M_in_M_in (c_M_in (gk C) h2) (by decide) (by decide) rfl rfl (Nat.le_of_ble_eq_true rfl) d_M_wisest_15 ?_
      refine R_if_ne C d_M_wisest_18 (tgt := 23) (by decide) ?_ ?_
      · skip
        exact R_sub [0, 1] rfl (hK7)
      · skip
        refine R_iconst C d_M_wisest_21 (v := (-1)) (by decide +kernel) ?_
        exact R_iret C rfl d_M_wisest_22
theorem c_M_wisest {q : QT} (hg : GOk sdM q) {a1 : Int32} {μ : Mm} {ν : Ml} {o : Int32 × Mm} (ho : F_M_wisest a1 μ = some o) : Ct sdM q y_M_wisest prog_14_method_66_code 3 (some (FieldType.int)) 8 [.ref (q.2.2.1 0), .int a1] μ ν ((φIm ν) o).1 ((φIm ν) o).2.1 ((φIm ν) o).2.2 := Ct_of rfl hg (fun z C => w_M_wisest C) (Nat.le_of_ble_eq_true rfl) ho
