def F_M_item (a1 : Int32) (a2 : Int32) (a3 : Int64) (μ : Mm) (ν : Ml) : Option (Int32 × Ml) := (F_M_isTape a1).bind fun v1 => (if v1 = 0 then some ((-1), ν) else (rdI (μ 65) 6 a1).bind fun v3 => (if 0 ≤ v3 then (rdI (μ 66) 6 a1).bind fun v4 => (F_M_in a2 0 (v4 - 1)).bind fun v5 => (if v5 = 0 then some ((-13), ν) else (rdI (μ 65) 6 a1).bind fun v7 => (F_M_narrow v7 a3).bind fun v8 => (wrL ν 67 360 ((60 * a1) + a2) v8).bind fun ν10 => some (1, ν10)) else some ((-11), ν)))
theorem d_M_item_0 : decode prog_14_method_107_code 0 = .ok (.aload_n 0, 1) := by decide +kernel
theorem d_M_item_1 : decode prog_14_method_107_code 1 = .ok (.iload_n 1, 1) := by decide +kernel
theorem d_M_item_2 : decode prog_14_method_107_code 2 = .ok (.invokevirtual 420, 3) := by decide +kernel
theorem d_M_item_10 : decode prog_14_method_107_code 10 = .ok (.aload_n 0, 1) := by decide +kernel
theorem d_M_item_14 : decode prog_14_method_107_code 14 = .ok (.iload_n 1, 1) := by decide +kernel
theorem d_M_item_22 : decode prog_14_method_107_code 22 = .ok (.aload_n 0, 1) := by decide +kernel
theorem d_M_item_23 : decode prog_14_method_107_code 23 = .ok (.iload_n 2, 1) := by decide +kernel
theorem d_M_item_24 : decode prog_14_method_107_code 24 = .ok (.iconst 0, 1) := by decide +kernel
theorem d_M_item_25 : decode prog_14_method_107_code 25 = .ok (.aload_n 0, 1) := by decide +kernel
theorem d_M_item_29 : decode prog_14_method_107_code 29 = .ok (.iload_n 1, 1) := by decide +kernel
theorem d_M_item_31 : decode prog_14_method_107_code 31 = .ok (.iconst 1, 1) := by decide +kernel
theorem d_M_item_32 : decode prog_14_method_107_code 32 = .ok (.isub, 1) := by decide +kernel
theorem d_M_item_33 : decode prog_14_method_107_code 33 = .ok (.invokevirtual 225, 3) := by decide +kernel
theorem d_M_item_42 : decode prog_14_method_107_code 42 = .ok (.aload_n 0, 1) := by decide +kernel
theorem d_M_item_46 : decode prog_14_method_107_code 46 = .ok (.bipush 60, 2) := by decide +kernel
theorem d_M_item_48 : decode prog_14_method_107_code 48 = .ok (.iload_n 1, 1) := by decide +kernel
theorem d_M_item_49 : decode prog_14_method_107_code 49 = .ok (.imul, 1) := by decide +kernel
theorem d_M_item_50 : decode prog_14_method_107_code 50 = .ok (.iload_n 2, 1) := by decide +kernel
theorem d_M_item_51 : decode prog_14_method_107_code 51 = .ok (.iadd, 1) := by decide +kernel
theorem d_M_item_52 : decode prog_14_method_107_code 52 = .ok (.aload_n 0, 1) := by decide +kernel
theorem d_M_item_53 : decode prog_14_method_107_code 53 = .ok (.aload_n 0, 1) := by decide +kernel
theorem d_M_item_57 : decode prog_14_method_107_code 57 = .ok (.iload_n 1, 1) := by decide +kernel
theorem d_M_item_59 : decode prog_14_method_107_code 59 = .ok (.lload_n 3, 1) := by decide +kernel
theorem d_M_item_60 : decode prog_14_method_107_code 60 = .ok (.invokevirtual 447, 3) := by decide +kernel
theorem d_M_item_64 : decode prog_14_method_107_code 64 = .ok (.iconst 1, 1) := by decide +kernel
theorem d_M_item_65 : decode prog_14_method_107_code 65 = .ok (.ireturn, 1) := by decide +kernel
theorem d_M_item_63 : decode prog_14_method_107_code 63 = .ok (.lastore, 1) := by decide +kernel
theorem d_M_item_54 : decode prog_14_method_107_code 54 = .ok (.getfield 208, 3) := by decide +kernel
theorem d_M_item_43 : decode prog_14_method_107_code 43 = .ok (.getfield 214, 3) := by decide +kernel
theorem d_M_item_39 : decode prog_14_method_107_code 39 = .ok (.bipush (-13), 2) := by decide +kernel
theorem d_M_item_41 : decode prog_14_method_107_code 41 = .ok (.ireturn, 1) := by decide +kernel
theorem d_M_item_36 : decode prog_14_method_107_code 36 = .ok (.ifCond .ne 6, 3) := by decide +kernel
theorem d_M_item_26 : decode prog_14_method_107_code 26 = .ok (.getfield 211, 3) := by decide +kernel
theorem d_M_item_19 : decode prog_14_method_107_code 19 = .ok (.bipush (-11), 2) := by decide +kernel
theorem d_M_item_21 : decode prog_14_method_107_code 21 = .ok (.ireturn, 1) := by decide +kernel
theorem d_M_item_16 : decode prog_14_method_107_code 16 = .ok (.ifCond .ge 6, 3) := by decide +kernel
theorem d_M_item_11 : decode prog_14_method_107_code 11 = .ok (.getfield 208, 3) := by decide +kernel
theorem d_M_item_8 : decode prog_14_method_107_code 8 = .ok (.iconst (-1), 1) := by decide +kernel
theorem d_M_item_9 : decode prog_14_method_107_code 9 = .ok (.ireturn, 1) := by decide +kernel
theorem d_M_item_5 : decode prog_14_method_107_code 5 = .ok (.ifCond .ne 5, 3) := by decide +kernel
theorem d_M_item_15 : decode prog_14_method_107_code 15 = .ok (.iaload, 1) := by decide +kernel
theorem d_M_item_30 : decode prog_14_method_107_code 30 = .ok (.iaload, 1) := by decide +kernel
theorem d_M_item_58 : decode prog_14_method_107_code 58 = .ok (.iaload, 1) := by decide +kernel
set_option maxRecDepth 10000 in
set_option maxHeartbeats 4000000 in
theorem w_M_item {q : QT} {z : ZT} {a1 : Int32} {a2 : Int32} {a3 : Int64} {μ : Mm} {ν : Ml} (C : Ctx sdM q z prog_14_method_107_code "BesideTomModel" 5 2 (some (FieldType.int))) : R sdM q z 5 (φIl μ) (F_M_item a1 a2 a3 μ ν) μ ν 0 [(0, .ref (q.2.2.1 0)), (1, .int a1), (2, .int a2), (3, .long a3)] [] := by
  unfold F_M_item
  refine R_aload_n C 0 d_M_item_0 rfl rfl ?_
  refine R_iload_n C 1 d_M_item_1 rfl rfl ?_
  refine R_bind (fun v1 h2 => ?_)
  refine R_callV C mm_0 (mc_0 q _ _) rfl cf_M_isTape rfl ml_M_420 im_M_isTape sl_M_M_isTape_M_isTape (c_M_isTape (gk C) h2) (by decide) (by decide) rfl rfl (Nat.le_of_ble_eq_true rfl) d_M_item_2 ?_
  refine R_if_ne C d_M_item_5 (tgt := 10) (by decide) ?_ ?_
  · skip
    refine R_aload_n C 0 d_M_item_10 rfl rfl ?_
    refine gf_M_sort C fl_M_208 d_M_item_11 ?_
    refine R_iload_n C 1 d_M_item_14 rfl rfl ?_
    refine R_iald C mm_65 (mc_65 q _ _) d_M_item_15 (fun v3 => ?_)
    refine R_if_ge C d_M_item_16 (tgt := 22) (by decide) ?_ ?_
    · skip
      refine R_aload_n C 0 d_M_item_22 rfl rfl ?_
      refine R_iload_n C 2 d_M_item_23 rfl rfl ?_
      refine R_iconst C d_M_item_24 (v := 0) (by decide +kernel) ?_
      refine R_aload_n C 0 d_M_item_25 rfl rfl ?_
      refine gf_M_length C fl_M_211 d_M_item_26 ?_
      refine R_iload_n C 1 d_M_item_29 rfl rfl ?_
      refine R_iald C mm_66 (mc_66 q _ _) d_M_item_30 (fun v4 => ?_)
      refine R_iconst C d_M_item_31 (v := 1) (by decide +kernel) ?_
      refine R_isub C d_M_item_32 ?_
      refine R_bind (fun v5 h6 => ?_)
      refine R_callV C mm_0 (mc_0 q _ _) rfl cf_M_in rfl ml_M_225 im_M_in sl_M_M_in_M_in (c_M_in (gk C) h6) (by decide) (by decide) rfl rfl (Nat.le_of_ble_eq_true rfl) d_M_item_33 ?_
      refine R_if_ne C d_M_item_36 (tgt := 42) (by decide) ?_ ?_
      · skip
        refine R_aload_n C 0 d_M_item_42 rfl rfl ?_
        refine gf_M_item C fl_M_214 d_M_item_43 ?_
        refine R_bipush C d_M_item_46 (v := 60) (by decide +kernel) ?_
        refine R_iload_n C 1 d_M_item_48 rfl rfl ?_
        refine R_imul C d_M_item_49 ?_
        refine R_iload_n C 2 d_M_item_50 rfl rfl ?_
        refine R_iadd C d_M_item_51 ?_
        refine R_aload_n C 0 d_M_item_52 rfl rfl ?_
        refine R_aload_n C 0 d_M_item_53 rfl rfl ?_
        refine gf_M_sort C fl_M_208 d_M_item_54 ?_
        refine R_iload_n C 1 d_M_item_57 rfl rfl ?_
        refine R_iald C mm_65 (mc_65 q _ _) d_M_item_58 (fun v7 => ?_)
        refine R_lload_n C 3 d_M_item_59 rfl rfl ?_
        refine R_bind (fun v8 h9 => ?_)
        refine R_callV C mm_0 (mc_0 q _ _) rfl cf_M_narrow rfl ml_M_447 im_M_narrow sl_M_M_narrow_M_narrow (c_M_narrow (gk C) h9) (by decide) (by decide) rfl rfl (Nat.le_of_ble_eq_true rfl) d_M_item_60 ?_
        refine R_last C mm_67 (fun h => mc_67 q _ h) d_M_item_63 (fun ν10 => ?_)
        refine R_iconst C d_M_item_64 (v := 1) (by decide +kernel) ?_
        exact R_iret C rfl d_M_item_65
      · skip
        refine R_bipush C d_M_item_39 (v := (-13)) (by decide +kernel) ?_
        exact R_iret C rfl d_M_item_41
    · skip
      refine R_bipush C d_M_item_19 (v := (-11)) (by decide +kernel) ?_
      exact R_iret C rfl d_M_item_21
  · skip
    refine R_iconst C d_M_item_8 (v := (-1)) (by decide +kernel) ?_
    exact R_iret C rfl d_M_item_9
theorem c_M_item {q : QT} (hg : GOk sdM q) {a1 : Int32} {a2 : Int32} {a3 : Int64} {μ : Mm} {ν : Ml} {o : Int32 × Ml} (ho : F_M_item a1 a2 a3 μ ν = some o) : Ct sdM q y_M_item prog_14_method_107_code 5 (some (FieldType.int)) 2 [.ref (q.2.2.1 0), .int a1, .int a2, .long a3] μ ν ((φIl μ) o).1 ((φIl μ) o).2.1 ((φIl μ) o).2.2 := Ct_of rfl hg (fun z C => w_M_item C) (Nat.le_of_ble_eq_true rfl) ho
def L_M_judge_24 (f5 : Int32) (f6 : Int32) (μ : Mm) (ν : Ml) (k : Unit → Option (Int32)) : Nat → Int32 → Option (Int32)
  | 0, _ => none
  | n + 1, s4 => (if (μ 0 0) ≤ s4 then k () else (rdI (μ 65) 6 f5).bind fun v7 => (if v7 < 0 then some (100 + s4) else (if f6 < 0 then some (100 + s4) else (rdI (μ 66) 6 f5).bind fun v8 => (if f6 ≤ ((v8 - s4) - 1) then (rdL (ν 67) 360 (((60 * f5) + f6) + s4)).bind fun v9 => (rdI (μ 6) 6 s4).bind fun v10 => (if (lg_cmp v9 (Int32.toInt64 v10)) = 0 then L_M_judge_24 f5 f6 μ ν k n (s4 + 1) else some s4) else some (100 + s4)))))
def F_M_judge (a1 : Int32) (a2 : Int32) (μ : Mm) (ν : Ml) : Option (Int32) := (F_M_isTape a1).bind fun v1 => (if v1 = 0 then some (-1) else (rdI (μ 65) 6 a1).bind fun v3 => (if v3 ≤ 0 then L_M_judge_24 a1 a2 μ ν (fun (_ : Unit) => some (-5)) fu 0 else some (-12)))
theorem d_M_judge_0 : decode prog_14_method_89_code 0 = .ok (.aload_n 0, 1) := by decide +kernel
theorem d_M_judge_1 : decode prog_14_method_89_code 1 = .ok (.iload_n 1, 1) := by decide +kernel
theorem d_M_judge_2 : decode prog_14_method_89_code 2 = .ok (.invokevirtual 420, 3) := by decide +kernel
theorem d_M_judge_10 : decode prog_14_method_89_code 10 = .ok (.aload_n 0, 1) := by decide +kernel
theorem d_M_judge_14 : decode prog_14_method_89_code 14 = .ok (.iload_n 1, 1) := by decide +kernel
theorem d_M_judge_22 : decode prog_14_method_89_code 22 = .ok (.iconst 0, 1) := by decide +kernel
theorem d_M_judge_23 : decode prog_14_method_89_code 23 = .ok (.istore_n 3, 1) := by decide +kernel
theorem d_M_judge_24 : decode prog_14_method_89_code 24 = .ok (.iload_n 3, 1) := by decide +kernel
theorem d_M_judge_25 : decode prog_14_method_89_code 25 = .ok (.aload_n 0, 1) := by decide +kernel
theorem d_M_judge_32 : decode prog_14_method_89_code 32 = .ok (.aload_n 0, 1) := by decide +kernel
theorem d_M_judge_36 : decode prog_14_method_89_code 36 = .ok (.iload_n 1, 1) := by decide +kernel
theorem d_M_judge_59 : decode prog_14_method_89_code 59 = .ok (.bipush 100, 2) := by decide +kernel
theorem d_M_judge_61 : decode prog_14_method_89_code 61 = .ok (.iload_n 3, 1) := by decide +kernel
theorem d_M_judge_62 : decode prog_14_method_89_code 62 = .ok (.iadd, 1) := by decide +kernel
theorem d_M_judge_63 : decode prog_14_method_89_code 63 = .ok (.ireturn, 1) := by decide +kernel
theorem d_M_judge_41 : decode prog_14_method_89_code 41 = .ok (.iload_n 2, 1) := by decide +kernel
theorem d_M_judge_45 : decode prog_14_method_89_code 45 = .ok (.iload_n 2, 1) := by decide +kernel
theorem d_M_judge_46 : decode prog_14_method_89_code 46 = .ok (.aload_n 0, 1) := by decide +kernel
theorem d_M_judge_50 : decode prog_14_method_89_code 50 = .ok (.iload_n 1, 1) := by decide +kernel
theorem d_M_judge_52 : decode prog_14_method_89_code 52 = .ok (.iload_n 3, 1) := by decide +kernel
theorem d_M_judge_53 : decode prog_14_method_89_code 53 = .ok (.isub, 1) := by decide +kernel
theorem d_M_judge_54 : decode prog_14_method_89_code 54 = .ok (.iconst 1, 1) := by decide +kernel
theorem d_M_judge_55 : decode prog_14_method_89_code 55 = .ok (.isub, 1) := by decide +kernel
theorem d_M_judge_64 : decode prog_14_method_89_code 64 = .ok (.aload_n 0, 1) := by decide +kernel
theorem d_M_judge_68 : decode prog_14_method_89_code 68 = .ok (.bipush 60, 2) := by decide +kernel
theorem d_M_judge_70 : decode prog_14_method_89_code 70 = .ok (.iload_n 1, 1) := by decide +kernel
theorem d_M_judge_71 : decode prog_14_method_89_code 71 = .ok (.imul, 1) := by decide +kernel
theorem d_M_judge_72 : decode prog_14_method_89_code 72 = .ok (.iload_n 2, 1) := by decide +kernel
theorem d_M_judge_73 : decode prog_14_method_89_code 73 = .ok (.iadd, 1) := by decide +kernel
theorem d_M_judge_74 : decode prog_14_method_89_code 74 = .ok (.iload_n 3, 1) := by decide +kernel
theorem d_M_judge_75 : decode prog_14_method_89_code 75 = .ok (.iadd, 1) := by decide +kernel
theorem d_M_judge_77 : decode prog_14_method_89_code 77 = .ok (.aload_n 0, 1) := by decide +kernel
theorem d_M_judge_81 : decode prog_14_method_89_code 81 = .ok (.iload_n 3, 1) := by decide +kernel
theorem d_M_judge_83 : decode prog_14_method_89_code 83 = .ok (.i2l, 1) := by decide +kernel
theorem d_M_judge_84 : decode prog_14_method_89_code 84 = .ok (.lcmp, 1) := by decide +kernel
theorem d_M_judge_90 : decode prog_14_method_89_code 90 = .ok (.iinc 3 1, 3) := by decide +kernel
theorem d_M_judge_93 : decode prog_14_method_89_code 93 = .ok (.goto (-69), 3) := by decide +kernel
theorem d_M_judge_88 : decode prog_14_method_89_code 88 = .ok (.iload_n 3, 1) := by decide +kernel
theorem d_M_judge_89 : decode prog_14_method_89_code 89 = .ok (.ireturn, 1) := by decide +kernel
theorem d_M_judge_85 : decode prog_14_method_89_code 85 = .ok (.ifCond .eq 5, 3) := by decide +kernel
theorem d_M_judge_78 : decode prog_14_method_89_code 78 = .ok (.getfield 29, 3) := by decide +kernel
theorem d_M_judge_65 : decode prog_14_method_89_code 65 = .ok (.getfield 214, 3) := by decide +kernel
theorem d_M_judge_56 : decode prog_14_method_89_code 56 = .ok (.if_icmp .le 8, 3) := by decide +kernel
theorem d_M_judge_47 : decode prog_14_method_89_code 47 = .ok (.getfield 211, 3) := by decide +kernel
theorem d_M_judge_42 : decode prog_14_method_89_code 42 = .ok (.ifCond .lt 17, 3) := by decide +kernel
theorem d_M_judge_38 : decode prog_14_method_89_code 38 = .ok (.ifCond .lt 21, 3) := by decide +kernel
theorem d_M_judge_33 : decode prog_14_method_89_code 33 = .ok (.getfield 208, 3) := by decide +kernel
theorem d_M_judge_29 : decode prog_14_method_89_code 29 = .ok (.if_icmp .ge 67, 3) := by decide +kernel
theorem d_M_judge_26 : decode prog_14_method_89_code 26 = .ok (.getfield 7, 3) := by decide +kernel
theorem d_M_judge_37 : decode prog_14_method_89_code 37 = .ok (.iaload, 1) := by decide +kernel
theorem d_M_judge_51 : decode prog_14_method_89_code 51 = .ok (.iaload, 1) := by decide +kernel
theorem d_M_judge_76 : decode prog_14_method_89_code 76 = .ok (.laload, 1) := by decide +kernel
theorem d_M_judge_82 : decode prog_14_method_89_code 82 = .ok (.iaload, 1) := by decide +kernel
set_option maxRecDepth 10000 in
set_option maxHeartbeats 4000000 in
theorem W_M_judge_24 {q : QT} {z : ZT} {μ : Mm} {ν : Ml} {f5 : Int32} {f6 : Int32} {k : Unit → Option (Int32)} (C : Ctx sdM q z prog_14_method_89_code "BesideTomModel" 4 2 (some (FieldType.int))) (hk : R sdM q z 4 (φI μ ν) (k ()) μ ν 96 [] []) : ∀ (n : Nat) (s4 : Int32), R sdM q z 4 (φI μ ν) (L_M_judge_24 f5 f6 μ ν k n s4) μ ν 24 [(3, .int s4), (0, .ref (q.2.2.1 0)), (1, .int f5), (2, .int f6)] [] := by
  intro n
  induction n with
  | zero =>
    intros
    exact R_none
  | succ n ih =>
    intro s4
    rw [L_M_judge_24]
    refine R_iload_n C 0 d_M_judge_24 rfl rfl ?_
    refine R_aload_n C 1 d_M_judge_25 rfl rfl ?_
    refine gf_M_pupils C fl_M_7 d_M_judge_26 ?_
    refine R_icmp_ge C d_M_judge_29 (tgt := 96) (by decide) ?_ ?_
    · skip
      exact R_sub [] rfl hk
    · skip
      refine R_aload_n C 1 d_M_judge_32 rfl rfl ?_
      refine gf_M_sort C fl_M_208 d_M_judge_33 ?_
      refine R_iload_n C 2 d_M_judge_36 rfl rfl ?_
      refine R_iald C mm_65 (mc_65 q _ _) d_M_judge_37 (fun v7 => ?_)
      refine R_if_lt C d_M_judge_38 (tgt := 59) (by decide) ?_ ?_
      · skip
        refine R_bipush C d_M_judge_59 (v := 100) (by decide +kernel) ?_
        refine R_iload_n C 0 d_M_judge_61 rfl rfl ?_
        refine R_iadd C d_M_judge_62 ?_
        exact R_iret C rfl d_M_judge_63
      · skip
        refine R_iload_n C 3 d_M_judge_41 rfl rfl ?_
        refine R_if_lt C d_M_judge_42 (tgt := 59) (by decide) ?_ ?_
        · skip
          refine R_bipush C d_M_judge_59 (v := 100) (by decide +kernel) ?_
          refine R_iload_n C 0 d_M_judge_61 rfl rfl ?_
          refine R_iadd C d_M_judge_62 ?_
          exact R_iret C rfl d_M_judge_63
        · skip
          refine R_iload_n C 3 d_M_judge_45 rfl rfl ?_
          refine R_aload_n C 1 d_M_judge_46 rfl rfl ?_
          refine gf_M_length C fl_M_211 d_M_judge_47 ?_
          refine R_iload_n C 2 d_M_judge_50 rfl rfl ?_
          refine R_iald C mm_66 (mc_66 q _ _) d_M_judge_51 (fun v8 => ?_)
          refine R_iload_n C 0 d_M_judge_52 rfl rfl ?_
          refine R_isub C d_M_judge_53 ?_
          refine R_iconst C d_M_judge_54 (v := 1) (by decide +kernel) ?_
          refine R_isub C d_M_judge_55 ?_
          refine R_icmp_le C d_M_judge_56 (tgt := 64) (by decide) ?_ ?_
          · skip
            refine R_aload_n C 1 d_M_judge_64 rfl rfl ?_
            refine gf_M_item C fl_M_214 d_M_judge_65 ?_
            refine R_bipush C d_M_judge_68 (v := 60) (by decide +kernel) ?_
            refine R_iload_n C 2 d_M_judge_70 rfl rfl ?_
            refine R_imul C d_M_judge_71 ?_
            refine R_iload_n C 3 d_M_judge_72 rfl rfl ?_
            refine R_iadd C d_M_judge_73 ?_
            refine R_iload_n C 0 d_M_judge_74 rfl rfl ?_
            refine R_iadd C d_M_judge_75 ?_
            refine R_lald C mm_67 (mc_67 q _ _) d_M_judge_76 (fun v9 => ?_)
            refine R_aload_n C 1 d_M_judge_77 rfl rfl ?_
            refine gf_M_desk C fl_M_29 d_M_judge_78 ?_
            refine R_iload_n C 0 d_M_judge_81 rfl rfl ?_
            refine R_iald C mm_6 (mc_6 q _ _) d_M_judge_82 (fun v10 => ?_)
            refine R_i2l C d_M_judge_83 ?_
            refine R_lcmp C d_M_judge_84 ?_
            refine R_if_eq C d_M_judge_85 (tgt := 90) (by decide) ?_ ?_
            · skip
              refine R_iinc C 0 d_M_judge_90 rfl (iinc_v _ (v := 1) (by decide +kernel)) (lv' := [(3, .int (s4 + 1)), (0, .ref (q.2.2.1 0)), (1, .int f5), (2, .int f6)]) (by decide) rfl ?_
              refine R_goto C d_M_judge_93 (tgt := 24) (by decide) ?_
              exact R_sub [0, 1, 2, 3] rfl (ih (s4 + 1))
            · skip
              refine R_iload_n C 0 d_M_judge_88 rfl rfl ?_
              exact R_iret C rfl d_M_judge_89
          · skip
            refine R_bipush C d_M_judge_59 (v := 100) (by decide +kernel) ?_
            refine R_iload_n C 0 d_M_judge_61 rfl rfl ?_
            refine R_iadd C d_M_judge_62 ?_
            exact R_iret C rfl d_M_judge_63
theorem d_M_judge_96 : decode prog_14_method_89_code 96 = .ok (.bipush (-5), 2) := by decide +kernel
theorem d_M_judge_98 : decode prog_14_method_89_code 98 = .ok (.ireturn, 1) := by decide +kernel
theorem d_M_judge_19 : decode prog_14_method_89_code 19 = .ok (.bipush (-12), 2) := by decide +kernel
theorem d_M_judge_21 : decode prog_14_method_89_code 21 = .ok (.ireturn, 1) := by decide +kernel
theorem d_M_judge_16 : decode prog_14_method_89_code 16 = .ok (.ifCond .le 6, 3) := by decide +kernel
theorem d_M_judge_11 : decode prog_14_method_89_code 11 = .ok (.getfield 208, 3) := by decide +kernel
theorem d_M_judge_8 : decode prog_14_method_89_code 8 = .ok (.iconst (-1), 1) := by decide +kernel
theorem d_M_judge_9 : decode prog_14_method_89_code 9 = .ok (.ireturn, 1) := by decide +kernel
theorem d_M_judge_5 : decode prog_14_method_89_code 5 = .ok (.ifCond .ne 5, 3) := by decide +kernel
theorem d_M_judge_15 : decode prog_14_method_89_code 15 = .ok (.iaload, 1) := by decide +kernel
set_option maxRecDepth 10000 in
set_option maxHeartbeats 4000000 in
theorem w_M_judge {q : QT} {z : ZT} {a1 : Int32} {a2 : Int32} {μ : Mm} {ν : Ml} (C : Ctx sdM q z prog_14_method_89_code "BesideTomModel" 4 2 (some (FieldType.int))) : R sdM q z 4 (φI μ ν) (F_M_judge a1 a2 μ ν) μ ν 0 [(0, .ref (q.2.2.1 0)), (1, .int a1), (2, .int a2)] [] := by
  unfold F_M_judge
  refine R_aload_n C 0 d_M_judge_0 rfl rfl ?_
  refine R_iload_n C 1 d_M_judge_1 rfl rfl ?_
  refine R_bind (fun v1 h2 => ?_)
  refine R_callV C mm_0 (mc_0 q _ _) rfl cf_M_isTape rfl ml_M_420 im_M_isTape sl_M_M_isTape_M_isTape (c_M_isTape (gk C) h2) (by decide) (by decide) rfl rfl (Nat.le_of_ble_eq_true rfl) d_M_judge_2 ?_
  refine R_if_ne C d_M_judge_5 (tgt := 10) (by decide) ?_ ?_
  · skip
    refine R_aload_n C 0 d_M_judge_10 rfl rfl ?_
    refine gf_M_sort C fl_M_208 d_M_judge_11 ?_
    refine R_iload_n C 1 d_M_judge_14 rfl rfl ?_
    refine R_iald C mm_65 (mc_65 q _ _) d_M_judge_15 (fun v3 => ?_)
    refine R_if_le C d_M_judge_16 (tgt := 22) (by decide) ?_ ?_
    · skip
      refine R_iconst C d_M_judge_22 (v := 0) (by decide +kernel) ?_
      refine R_istore_n C (lv' := [(3, .int 0), (0, .ref (q.2.2.1 0)), (1, .int a1), (2, .int a2)]) d_M_judge_23 rfl (by decide) rfl ?_
      refine R_sub [0, 1, 2, 3] rfl ?_
      refine W_M_judge_24 C ?_ fu _
      skip
      refine R_bipush C d_M_judge_96 (v := (-5)) (by decide +kernel) ?_
      exact R_iret C rfl d_M_judge_98
    · skip
      refine R_bipush C d_M_judge_19 (v := (-12)) (by decide +kernel) ?_
      exact R_iret C rfl d_M_judge_21
  · skip
    refine R_iconst C d_M_judge_8 (v := (-1)) (by decide +kernel) ?_
    exact R_iret C rfl d_M_judge_9
theorem c_M_judge {q : QT} (hg : GOk sdM q) {a1 : Int32} {a2 : Int32} {μ : Mm} {ν : Ml} {o : Int32} (ho : F_M_judge a1 a2 μ ν = some o) : Ct sdM q y_M_judge prog_14_method_89_code 4 (some (FieldType.int)) 2 [.ref (q.2.2.1 0), .int a1, .int a2] μ ν ((φI μ ν) o).1 ((φI μ ν) o).2.1 ((φI μ ν) o).2.2 := Ct_of rfl hg (fun z C => w_M_judge C) (Nat.le_of_ble_eq_true rfl) ho
def F_M_knows (a1 : Int32) (a2 : Int32) (μ : Mm) : Option (Int32 × Mm) := (F_M_isPupil a1 μ).bind fun v1 => (if v1 = 0 then some ((-1), μ) else (F_M_in a2 0 9999).bind fun v3 => (if v3 = 0 then some ((-2), μ) else (rdI (μ 7) 6 a1).bind fun v5 => (wrI μ 7 6 a1 a2).bind fun μ6 => some (v5, μ6)))
theorem d_M_knows_0 : decode prog_14_method_15_code 0 = .ok (.aload_n 0, 1) := by decide +kernel
theorem d_M_knows_1 : decode prog_14_method_15_code 1 = .ok (.iload_n 1, 1) := by decide +kernel
theorem d_M_knows_2 : decode prog_14_method_15_code 2 = .ok (.invokevirtual 233, 3) := by decide +kernel
theorem d_M_knows_10 : decode prog_14_method_15_code 10 = .ok (.aload_n 0, 1) := by decide +kernel
theorem d_M_knows_11 : decode prog_14_method_15_code 11 = .ok (.iload_n 2, 1) := by decide +kernel
theorem d_M_knows_12 : decode prog_14_method_15_code 12 = .ok (.iconst 0, 1) := by decide +kernel
theorem d_M_knows_13 : decode prog_14_method_15_code 13 = .ok (.sipush 9999, 3) := by decide +kernel
theorem d_M_knows_16 : decode prog_14_method_15_code 16 = .ok (.invokevirtual 225, 3) := by decide +kernel
theorem d_M_knows_25 : decode prog_14_method_15_code 25 = .ok (.aload_n 0, 1) := by decide +kernel
theorem d_M_knows_29 : decode prog_14_method_15_code 29 = .ok (.iload_n 1, 1) := by decide +kernel
theorem d_M_knows_31 : decode prog_14_method_15_code 31 = .ok (.istore_n 3, 1) := by decide +kernel
theorem d_M_knows_32 : decode prog_14_method_15_code 32 = .ok (.aload_n 0, 1) := by decide +kernel
theorem d_M_knows_36 : decode prog_14_method_15_code 36 = .ok (.iload_n 1, 1) := by decide +kernel
theorem d_M_knows_37 : decode prog_14_method_15_code 37 = .ok (.iload_n 2, 1) := by decide +kernel
theorem d_M_knows_39 : decode prog_14_method_15_code 39 = .ok (.iload_n 3, 1) := by decide +kernel
theorem d_M_knows_40 : decode prog_14_method_15_code 40 = .ok (.ireturn, 1) := by decide +kernel
theorem d_M_knows_38 : decode prog_14_method_15_code 38 = .ok (.iastore, 1) := by decide +kernel
theorem d_M_knows_33 : decode prog_14_method_15_code 33 = .ok (.getfield 32, 3) := by decide +kernel
theorem d_M_knows_26 : decode prog_14_method_15_code 26 = .ok (.getfield 32, 3) := by decide +kernel
theorem d_M_knows_22 : decode prog_14_method_15_code 22 = .ok (.bipush (-2), 2) := by decide +kernel
theorem d_M_knows_24 : decode prog_14_method_15_code 24 = .ok (.ireturn, 1) := by decide +kernel
theorem d_M_knows_19 : decode prog_14_method_15_code 19 = .ok (.ifCond .ne 6, 3) := by decide +kernel
theorem d_M_knows_8 : decode prog_14_method_15_code 8 = .ok (.iconst (-1), 1) := by decide +kernel
theorem d_M_knows_9 : decode prog_14_method_15_code 9 = .ok (.ireturn, 1) := by decide +kernel
theorem d_M_knows_5 : decode prog_14_method_15_code 5 = .ok (.ifCond .ne 5, 3) := by decide +kernel
theorem d_M_knows_30 : decode prog_14_method_15_code 30 = .ok (.iaload, 1) := by decide +kernel
set_option maxRecDepth 10000 in
set_option maxHeartbeats 4000000 in
theorem w_M_knows {q : QT} {z : ZT} {a1 : Int32} {a2 : Int32} {μ : Mm} {ν : Ml} (C : Ctx sdM q z prog_14_method_15_code "BesideTomModel" 4 2 (some (FieldType.int))) : R sdM q z 4 (φIm ν) (F_M_knows a1 a2 μ) μ ν 0 [(0, .ref (q.2.2.1 0)), (1, .int a1), (2, .int a2)] [] := by
  unfold F_M_knows
  refine R_aload_n C 0 d_M_knows_0 rfl rfl ?_
  refine R_iload_n C 1 d_M_knows_1 rfl rfl ?_
  refine R_bind (fun v1 h2 => ?_)
  refine R_callV C mm_0 (mc_0 q _ _) rfl cf_M_isPupil rfl ml_M_233 im_M_isPupil sl_M_M_isPupil_M_isPupil (c_M_isPupil (gk C) h2) (by decide) (by decide) rfl rfl (Nat.le_of_ble_eq_true rfl) d_M_knows_2 ?_
  refine R_if_ne C d_M_knows_5 (tgt := 10) (by decide) ?_ ?_
  · skip
    refine R_aload_n C 0 d_M_knows_10 rfl rfl ?_
    refine R_iload_n C 2 d_M_knows_11 rfl rfl ?_
    refine R_iconst C d_M_knows_12 (v := 0) (by decide +kernel) ?_
    refine R_sipush C d_M_knows_13 (v := 9999) (by decide +kernel) ?_
    refine R_bind (fun v3 h4 => ?_)
    refine R_callV C mm_0 (mc_0 q _ _) rfl cf_M_in rfl ml_M_225 im_M_in sl_M_M_in_M_in (c_M_in (gk C) h4) (by decide) (by decide) rfl rfl (Nat.le_of_ble_eq_true rfl) d_M_knows_16 ?_
    refine R_if_ne C d_M_knows_19 (tgt := 25) (by decide) ?_ ?_
    · skip
      refine R_aload_n C 0 d_M_knows_25 rfl rfl ?_
      refine gf_M_knew C fl_M_32 d_M_knows_26 ?_
      refine R_iload_n C 1 d_M_knows_29 rfl rfl ?_
      refine R_iald C mm_7 (mc_7 q _ _) d_M_knows_30 (fun v5 => ?_)
      refine R_istore_n C (lv' := [(3, .int v5), (0, .ref (q.2.2.1 0)), (1, .int a1), (2, .int a2)]) d_M_knows_31 rfl (by decide) rfl ?_
      refine R_aload_n C 1 d_M_knows_32 rfl rfl ?_
      refine gf_M_knew C fl_M_32 d_M_knows_33 ?_
      refine R_iload_n C 2 d_M_knows_36 rfl rfl ?_
      refine R_iload_n C 3 d_M_knows_37 rfl rfl ?_
      refine R_iast C mm_7 (fun h => mc_7 q h _) d_M_knows_38 (fun μ6 => ?_)
      refine R_iload_n C 0 d_M_knows_39 rfl rfl ?_
      exact R_iret C rfl d_M_knows_40
    · skip
      refine R_bipush C d_M_knows_22 (v := (-2)) (by decide +kernel) ?_
      exact R_iret C rfl d_M_knows_24
  · skip
    refine R_iconst C d_M_knows_8 (v := (-1)) (by decide +kernel) ?_
    exact R_iret C rfl d_M_knows_9
theorem c_M_knows {q : QT} (hg : GOk sdM q) {a1 : Int32} {a2 : Int32} {μ : Mm} {ν : Ml} {o : Int32 × Mm} (ho : F_M_knows a1 a2 μ = some o) : Ct sdM q y_M_knows prog_14_method_15_code 4 (some (FieldType.int)) 2 [.ref (q.2.2.1 0), .int a1, .int a2] μ ν ((φIm ν) o).1 ((φIm ν) o).2.1 ((φIm ν) o).2.2 := Ct_of rfl hg (fun z C => w_M_knows C) (Nat.le_of_ble_eq_true rfl) ho
def F_M_line (a1 : Int32) (a2 : Int32) (a3 : Int32) (μ : Mm) : Option (Int32 × Mm) := (F_M_isPupil a1 μ).bind fun v1 => (if v1 = 0 then some ((-1), μ) else (F_M_in a2 0 3).bind fun v3 => (if v3 = 0 then some ((-1), μ) else (F_M_in a3 0 9).bind fun v5 => (if v5 = 0 then some ((-2), μ) else (rdI (μ 4) 6 a1).bind fun v7 => (if v7 = 6 then (rdI (μ 8) 24 ((4 * a1) + a2)).bind fun v8 => (wrI μ 8 24 ((4 * a1) + a2) a3).bind fun μ9 => some (v8, μ9) else some ((-3), μ)))))
theorem d_M_line_0 : decode prog_14_method_16_code 0 = .ok (.aload_n 0, 1) := by decide +kernel
theorem d_M_line_1 : decode prog_14_method_16_code 1 = .ok (.iload_n 1, 1) := by decide +kernel
theorem d_M_line_2 : decode prog_14_method_16_code 2 = .ok (.invokevirtual 233, 3) := by decide +kernel
theorem d_M_line_18 : decode prog_14_method_16_code 18 = .ok (.iconst (-1), 1) := by decide +kernel
theorem d_M_line_19 : decode prog_14_method_16_code 19 = .ok (.ireturn, 1) := by decide +kernel
theorem d_M_line_8 : decode prog_14_method_16_code 8 = .ok (.aload_n 0, 1) := by decide +kernel
theorem d_M_line_9 : decode prog_14_method_16_code 9 = .ok (.iload_n 2, 1) := by decide +kernel
theorem d_M_line_10 : decode prog_14_method_16_code 10 = .ok (.iconst 0, 1) := by decide +kernel
theorem d_M_line_11 : decode prog_14_method_16_code 11 = .ok (.iconst 3, 1) := by decide +kernel
theorem d_M_line_12 : decode prog_14_method_16_code 12 = .ok (.invokevirtual 225, 3) := by decide +kernel
theorem d_M_line_20 : decode prog_14_method_16_code 20 = .ok (.aload_n 0, 1) := by decide +kernel
theorem d_M_line_21 : decode prog_14_method_16_code 21 = .ok (.iload_n 3, 1) := by decide +kernel
theorem d_M_line_22 : decode prog_14_method_16_code 22 = .ok (.iconst 0, 1) := by decide +kernel
theorem d_M_line_23 : decode prog_14_method_16_code 23 = .ok (.bipush 9, 2) := by decide +kernel
theorem d_M_line_25 : decode prog_14_method_16_code 25 = .ok (.invokevirtual 225, 3) := by decide +kernel
theorem d_M_line_34 : decode prog_14_method_16_code 34 = .ok (.aload_n 0, 1) := by decide +kernel
theorem d_M_line_38 : decode prog_14_method_16_code 38 = .ok (.iload_n 1, 1) := by decide +kernel
theorem d_M_line_40 : decode prog_14_method_16_code 40 = .ok (.bipush 6, 2) := by decide +kernel
theorem d_M_line_48 : decode prog_14_method_16_code 48 = .ok (.aload_n 0, 1) := by decide +kernel
theorem d_M_line_52 : decode prog_14_method_16_code 52 = .ok (.iconst 4, 1) := by decide +kernel
theorem d_M_line_53 : decode prog_14_method_16_code 53 = .ok (.iload_n 1, 1) := by decide +kernel
theorem d_M_line_54 : decode prog_14_method_16_code 54 = .ok (.imul, 1) := by decide +kernel
theorem d_M_line_55 : decode prog_14_method_16_code 55 = .ok (.iload_n 2, 1) := by decide +kernel
theorem d_M_line_56 : decode prog_14_method_16_code 56 = .ok (.iadd, 1) := by decide +kernel
theorem d_M_line_58 : decode prog_14_method_16_code 58 = .ok (.istore 4, 2) := by decide +kernel
theorem d_M_line_60 : decode prog_14_method_16_code 60 = .ok (.aload_n 0, 1) := by decide +kernel
theorem d_M_line_64 : decode prog_14_method_16_code 64 = .ok (.iconst 4, 1) := by decide +kernel
theorem d_M_line_65 : decode prog_14_method_16_code 65 = .ok (.iload_n 1, 1) := by decide +kernel
theorem d_M_line_66 : decode prog_14_method_16_code 66 = .ok (.imul, 1) := by decide +kernel
theorem d_M_line_67 : decode prog_14_method_16_code 67 = .ok (.iload_n 2, 1) := by decide +kernel
theorem d_M_line_68 : decode prog_14_method_16_code 68 = .ok (.iadd, 1) := by decide +kernel
theorem d_M_line_69 : decode prog_14_method_16_code 69 = .ok (.iload_n 3, 1) := by decide +kernel
theorem d_M_line_71 : decode prog_14_method_16_code 71 = .ok (.iload 4, 2) := by decide +kernel
theorem d_M_line_73 : decode prog_14_method_16_code 73 = .ok (.ireturn, 1) := by decide +kernel
theorem d_M_line_70 : decode prog_14_method_16_code 70 = .ok (.iastore, 1) := by decide +kernel
theorem d_M_line_61 : decode prog_14_method_16_code 61 = .ok (.getfield 35, 3) := by decide +kernel
theorem d_M_line_49 : decode prog_14_method_16_code 49 = .ok (.getfield 35, 3) := by decide +kernel
theorem d_M_line_45 : decode prog_14_method_16_code 45 = .ok (.bipush (-3), 2) := by decide +kernel
theorem d_M_line_47 : decode prog_14_method_16_code 47 = .ok (.ireturn, 1) := by decide +kernel
theorem d_M_line_42 : decode prog_14_method_16_code 42 = .ok (.if_icmp .eq 6, 3) := by decide +kernel
theorem d_M_line_35 : decode prog_14_method_16_code 35 = .ok (.getfield 22, 3) := by decide +kernel
theorem d_M_line_31 : decode prog_14_method_16_code 31 = .ok (.bipush (-2), 2) := by decide +kernel
theorem d_M_line_33 : decode prog_14_method_16_code 33 = .ok (.ireturn, 1) := by decide +kernel
theorem d_M_line_28 : decode prog_14_method_16_code 28 = .ok (.ifCond .ne 6, 3) := by decide +kernel
theorem d_M_line_15 : decode prog_14_method_16_code 15 = .ok (.ifCond .ne 5, 3) := by decide +kernel
theorem d_M_line_5 : decode prog_14_method_16_code 5 = .ok (.ifCond .eq 13, 3) := by decide +kernel
theorem d_M_line_39 : decode prog_14_method_16_code 39 = .ok (.iaload, 1) := by decide +kernel
theorem d_M_line_57 : decode prog_14_method_16_code 57 = .ok (.iaload, 1) := by decide +kernel
set_option maxRecDepth 10000 in
set_option maxHeartbeats 4000000 in
theorem w_M_line {q : QT} {z : ZT} {a1 : Int32} {a2 : Int32} {a3 : Int32} {μ : Mm} {ν : Ml} (C : Ctx sdM q z prog_14_method_16_code "BesideTomModel" 5 2 (some (FieldType.int))) : R sdM q z 5 (φIm ν) (F_M_line a1 a2 a3 μ) μ ν 0 [(0, .ref (q.2.2.1 0)), (1, .int a1), (2, .int a2), (3, .int a3)] [] := by
  unfold F_M_line
  refine R_aload_n C 0 d_M_line_0 rfl rfl ?_
  refine R_iload_n C 1 d_M_line_1 rfl rfl ?_
  refine R_bind (fun v1 h2 => ?_)
  refine R_callV C mm_0 (mc_0 q _ _) rfl cf_M_isPupil rfl ml_M_233 im_M_isPupil sl_M_M_isPupil_M_isPupil (c_M_isPupil (gk C) h2) (by decide) (by decide) rfl rfl (Nat.le_of_ble_eq_true rfl) d_M_line_2 ?_
  refine R_if_eq C d_M_line_5 (tgt := 18) (by decide) ?_ ?_
  · skip
    refine R_iconst C d_M_line_18 (v := (-1)) (by decide +kernel) ?_
    exact R_iret C rfl d_M_line_19
  · skip
    refine R_aload_n C 0 d_M_line_8 rfl rfl ?_
    refine R_iload_n C 2 d_M_line_9 rfl rfl ?_
    refine R_iconst C d_M_line_10 (v := 0) (by decide +kernel) ?_
    refine R_iconst C d_M_line_11 (v := 3) (by decide +kernel) ?_
    refine R_bind (fun v3 h4 => ?_)
    refine R_callV C mm_0 (mc_0 q _ _) rfl cf_M_in rfl ml_M_225 im_M_in sl_M_M_in_M_in (c_M_in (gk C) h4) (by decide) (by decide) rfl rfl (Nat.le_of_ble_eq_true rfl) d_M_line_12 ?_
    refine R_if_ne C d_M_line_15 (tgt := 20) (by decide) ?_ ?_
    · skip
      refine R_aload_n C 0 d_M_line_20 rfl rfl ?_
      refine R_iload_n C 3 d_M_line_21 rfl rfl ?_
      refine R_iconst C d_M_line_22 (v := 0) (by decide +kernel) ?_
      refine R_bipush C d_M_line_23 (v := 9) (by decide +kernel) ?_
      refine R_bind (fun v5 h6 => ?_)
      refine R_callV C mm_0 (mc_0 q _ _) rfl cf_M_in rfl ml_M_225 im_M_in sl_M_M_in_M_in (c_M_in (gk C) h6) (by decide) (by decide) rfl rfl (Nat.le_of_ble_eq_true rfl) d_M_line_25 ?_
      refine R_if_ne C d_M_line_28 (tgt := 34) (by decide) ?_ ?_
      · skip
        refine R_aload_n C 0 d_M_line_34 rfl rfl ?_
        refine gf_M_kind C fl_M_22 d_M_line_35 ?_
        refine R_iload_n C 1 d_M_line_38 rfl rfl ?_
        refine R_iald C mm_4 (mc_4 q _ _) d_M_line_39 (fun v7 => ?_)
        refine R_bipush C d_M_line_40 (v := 6) (by decide +kernel) ?_
        refine R_icmp_eq C d_M_line_42 (tgt := 48) (by decide) ?_ ?_
        · skip
          refine R_aload_n C 0 d_M_line_48 rfl rfl ?_
          refine gf_M_lines C fl_M_35 d_M_line_49 ?_
          refine R_iconst C d_M_line_52 (v := 4) (by decide +kernel) ?_
          refine R_iload_n C 1 d_M_line_53 rfl rfl ?_
          refine R_imul C d_M_line_54 ?_
          refine R_iload_n C 2 d_M_line_55 rfl rfl ?_
          refine R_iadd C d_M_line_56 ?_
          refine R_iald C mm_8 (mc_8 q _ _) d_M_line_57 (fun v8 => ?_)
          refine R_istore C (lv' := [(4, .int v8), (0, .ref (q.2.2.1 0)), (1, .int a1), (2, .int a2), (3, .int a3)]) d_M_line_58 (by decide) rfl ?_
          refine R_aload_n C 1 d_M_line_60 rfl rfl ?_
          refine gf_M_lines C fl_M_35 d_M_line_61 ?_
          refine R_iconst C d_M_line_64 (v := 4) (by decide +kernel) ?_
          refine R_iload_n C 2 d_M_line_65 rfl rfl ?_
          refine R_imul C d_M_line_66 ?_
          refine R_iload_n C 3 d_M_line_67 rfl rfl ?_
          refine R_iadd C d_M_line_68 ?_
          refine R_iload_n C 4 d_M_line_69 rfl rfl ?_
          refine R_iast C mm_8 (fun h => mc_8 q h _) d_M_line_70 (fun μ9 => ?_)
          refine R_iload C 0 d_M_line_71 rfl ?_
          exact R_iret C rfl d_M_line_73
        · skip
          refine R_bipush C d_M_line_45 (v := (-3)) (by decide +kernel) ?_
          exact R_iret C rfl d_M_line_47
      · skip
        refine R_bipush C d_M_line_31 (v := (-2)) (by decide +kernel) ?_
        exact R_iret C rfl d_M_line_33
    · skip
      refine R_iconst C d_M_line_18 (v := (-1)) (by decide +kernel) ?_
      exact R_iret C rfl d_M_line_19
theorem c_M_line {q : QT} (hg : GOk sdM q) {a1 : Int32} {a2 : Int32} {a3 : Int32} {μ : Mm} {ν : Ml} {o : Int32 × Mm} (ho : F_M_line a1 a2 a3 μ = some o) : Ct sdM q y_M_line prog_14_method_16_code 5 (some (FieldType.int)) 2 [.ref (q.2.2.1 0), .int a1, .int a2, .int a3] μ ν ((φIm ν) o).1 ((φIm ν) o).2.1 ((φIm ν) o).2.2 := Ct_of rfl hg (fun z C => w_M_line C) (Nat.le_of_ble_eq_true rfl) ho
def L_M_mouth_8 (f5 : Int32) (f6 : Int32) (k : Int32 → Mm → Option (Int32 × Mm)) : Nat → Int32 → Int32 → Mm → Option (Int32 × Mm)
  | 0, _, _, _ => none
  | n + 1, s3, s4, μ7 => (F_M_behind μ7).bind fun v8 => (if v8 ≤ s4 then k s3 μ7 else (rdI (μ7 16) 60 s4).bind fun v10 => jn (α := Int32 × Mm) (fun K21 => (if 1 < v10 then K21 (s3, μ7) else (F_M_holds s4 f5 f6 μ7).bind fun p_ => match p_ with | (v11, μ12) => (if v11 = 0 then K21 (s3, μ12) else (rdI (μ12 16) 60 s4).bind fun v14 => jn (α := Int32) (fun K18 => (if v14 = 0 then (rdI (μ12 17) 60 s4).bind fun v16 => K18 v16 else (rdI (μ12 17) 60 s4).bind fun v15 => K18 (-v15))) (fun (j17 : Int32) => K21 ((s3 + j17), μ12))))) (fun (p_ : Int32 × Mm) => match p_ with | (j19, μ20) => L_M_mouth_8 f5 f6 k n j19 (s4 + 1) μ20))
def F_M_mouth (a1 : Int32) (a2 : Int32) (μ : Mm) : Option (Int32 × Mm) := (F_M_begin μ).bind fun v1 => L_M_mouth_8 a1 a2 (fun (x22 : Int32) (μ23 : Mm) => (F_M_least0 x22).bind fun v24 => some (v24, μ23)) fu 3 v1 μ
theorem d_M_mouth_0 : decode prog_14_method_44_code 0 = .ok (.iconst 3, 1) := by decide +kernel
theorem d_M_mouth_1 : decode prog_14_method_44_code 1 = .ok (.istore_n 3, 1) := by decide +kernel
theorem d_M_mouth_2 : decode prog_14_method_44_code 2 = .ok (.aload_n 0, 1) := by decide +kernel
theorem d_M_mouth_3 : decode prog_14_method_44_code 3 = .ok (.invokevirtual 302, 3) := by decide +kernel
theorem d_M_mouth_6 : decode prog_14_method_44_code 6 = .ok (.istore 4, 2) := by decide +kernel
theorem d_M_mouth_8 : decode prog_14_method_44_code 8 = .ok (.iload 4, 2) := by decide +kernel
theorem d_M_mouth_10 : decode prog_14_method_44_code 10 = .ok (.aload_n 0, 1) := by decide +kernel
theorem d_M_mouth_11 : decode prog_14_method_44_code 11 = .ok (.invokevirtual 305, 3) := by decide +kernel
theorem d_M_mouth_17 : decode prog_14_method_44_code 17 = .ok (.aload_n 0, 1) := by decide +kernel
theorem d_M_mouth_21 : decode prog_14_method_44_code 21 = .ok (.iload 4, 2) := by decide +kernel
theorem d_M_mouth_24 : decode prog_14_method_44_code 24 = .ok (.iconst 1, 1) := by decide +kernel
theorem d_M_mouth_28 : decode prog_14_method_44_code 28 = .ok (.aload_n 0, 1) := by decide +kernel
theorem d_M_mouth_29 : decode prog_14_method_44_code 29 = .ok (.iload 4, 2) := by decide +kernel
theorem d_M_mouth_31 : decode prog_14_method_44_code 31 = .ok (.iload_n 1, 1) := by decide +kernel
theorem d_M_mouth_32 : decode prog_14_method_44_code 32 = .ok (.iload_n 2, 1) := by decide +kernel
theorem d_M_mouth_33 : decode prog_14_method_44_code 33 = .ok (.invokevirtual 316, 3) := by decide +kernel
theorem d_M_mouth_42 : decode prog_14_method_44_code 42 = .ok (.iload_n 3, 1) := by decide +kernel
theorem d_M_mouth_43 : decode prog_14_method_44_code 43 = .ok (.aload_n 0, 1) := by decide +kernel
theorem d_M_mouth_47 : decode prog_14_method_44_code 47 = .ok (.iload 4, 2) := by decide +kernel
theorem d_M_mouth_63 : decode prog_14_method_44_code 63 = .ok (.aload_n 0, 1) := by decide +kernel
theorem d_M_mouth_67 : decode prog_14_method_44_code 67 = .ok (.iload 4, 2) := by decide +kernel
theorem d_M_mouth_70 : decode prog_14_method_44_code 70 = .ok (.ineg, 1) := by decide +kernel
theorem d_M_mouth_64 : decode prog_14_method_44_code 64 = .ok (.getfield 62, 3) := by decide +kernel
theorem d_M_mouth_53 : decode prog_14_method_44_code 53 = .ok (.aload_n 0, 1) := by decide +kernel
theorem d_M_mouth_57 : decode prog_14_method_44_code 57 = .ok (.iload 4, 2) := by decide +kernel
theorem d_M_mouth_60 : decode prog_14_method_44_code 60 = .ok (.goto 11, 3) := by decide +kernel
theorem d_M_mouth_54 : decode prog_14_method_44_code 54 = .ok (.getfield 62, 3) := by decide +kernel
theorem d_M_mouth_50 : decode prog_14_method_44_code 50 = .ok (.ifCond .ne 13, 3) := by decide +kernel
theorem d_M_mouth_71 : decode prog_14_method_44_code 71 = .ok (.iadd, 1) := by decide +kernel
theorem d_M_mouth_72 : decode prog_14_method_44_code 72 = .ok (.istore_n 3, 1) := by decide +kernel
theorem d_M_mouth_44 : decode prog_14_method_44_code 44 = .ok (.getfield 59, 3) := by decide +kernel
theorem d_M_mouth_39 : decode prog_14_method_44_code 39 = .ok (.goto 34, 3) := by decide +kernel
theorem d_M_mouth_36 : decode prog_14_method_44_code 36 = .ok (.ifCond .ne 6, 3) := by decide +kernel
theorem d_M_mouth_25 : decode prog_14_method_44_code 25 = .ok (.if_icmp .gt 48, 3) := by decide +kernel
theorem d_M_mouth_73 : decode prog_14_method_44_code 73 = .ok (.iinc 4 1, 3) := by decide +kernel
theorem d_M_mouth_76 : decode prog_14_method_44_code 76 = .ok (.goto (-68), 3) := by decide +kernel
theorem d_M_mouth_18 : decode prog_14_method_44_code 18 = .ok (.getfield 59, 3) := by decide +kernel
theorem d_M_mouth_14 : decode prog_14_method_44_code 14 = .ok (.if_icmp .ge 65, 3) := by decide +kernel
theorem d_M_mouth_23 : decode prog_14_method_44_code 23 = .ok (.iaload, 1) := by decide +kernel
theorem d_M_mouth_49 : decode prog_14_method_44_code 49 = .ok (.iaload, 1) := by decide +kernel
theorem d_M_mouth_69 : decode prog_14_method_44_code 69 = .ok (.iaload, 1) := by decide +kernel
theorem d_M_mouth_59 : decode prog_14_method_44_code 59 = .ok (.iaload, 1) := by decide +kernel
set_option maxRecDepth 10000 in
set_option maxHeartbeats 4000000 in
theorem W_M_mouth_8 {q : QT} {z : ZT} {ν : Ml} {f5 : Int32} {f6 : Int32} {k : Int32 → Mm → Option (Int32 × Mm)} (C : Ctx sdM q z prog_14_method_44_code "BesideTomModel" 5 2 (some (FieldType.int))) (hk : ∀ (e0_ : Int32) (me_ : Mm), R sdM q z 5 (φIm ν) (k e0_ me_) me_ ν 79 [(0, .ref (q.2.2.1 0)), (3, .int e0_)] []) : ∀ (n : Nat) (s3 : Int32) (s4 : Int32) (μ7 : Mm), R sdM q z 5 (φIm ν) (L_M_mouth_8 f5 f6 k n s3 s4 μ7) μ7 ν 8 [(3, .int s3), (4, .int s4), (0, .ref (q.2.2.1 0)), (1, .int f5), (2, .int f6)] [] := by
  intro n
  induction n with
  | zero =>
    intros
    exact R_none
  | succ n ih =>
    intro s3 s4 μ7
    rw [L_M_mouth_8]
    refine R_iload C 1 d_M_mouth_8 rfl ?_
    refine R_aload_n C 2 d_M_mouth_10 rfl rfl ?_
    refine R_bind (fun v8 h9 => ?_)
    refine R_callV C mm_0 (mc_0 q _ _) rfl cf_M_behind rfl ml_M_305 im_M_behind sl_M_M_behind_M_behind (c_M_behind (gk C) h9) (by decide) (by decide) rfl rfl (Nat.le_of_ble_eq_true rfl) d_M_mouth_11 ?_
    refine R_icmp_ge C d_M_mouth_14 (tgt := 79) (by decide) ?_ ?_
    · skip
      exact R_sub [2, 0] rfl (hk s3 μ7)
    · skip
      refine R_aload_n C 2 d_M_mouth_17 rfl rfl ?_
      refine gf_M_word C fl_M_59 d_M_mouth_18 ?_
      refine R_iload C 1 d_M_mouth_21 rfl ?_
      refine R_iald C mm_16 (mc_16 q _ _) d_M_mouth_23 (fun v10 => ?_)
      refine R_iconst C d_M_mouth_24 (v := 1) (by decide +kernel) ?_
      refine R_jn (fun K21 => ∀ (j19 : Int32) (μ20 : Mm), R sdM q z 5 (φIm ν) (K21 (j19, μ20)) μ20 ν 73 [(0, .ref (q.2.2.1 0)), (1, .int f5), (2, .int f6), (3, .int j19), (4, .int s4)] []) ?_ (fun K21 hK21 => ?_)
      · intro j19 μ20
        refine R_iinc C 4 d_M_mouth_73 rfl (iinc_v _ (v := 1) (by decide +kernel)) (lv' := [(4, .int (s4 + 1)), (0, .ref (q.2.2.1 0)), (1, .int f5), (2, .int f6), (3, .int j19)]) (by decide) rfl ?_
        refine R_goto C d_M_mouth_76 (tgt := 8) (by decide) ?_
        exact R_sub [4, 0, 1, 2, 3] rfl (ih j19 (s4 + 1) μ20)
      · skip
        refine R_icmp_gt C d_M_mouth_25 (tgt := 73) (by decide) ?_ ?_
        · skip
          exact R_sub [2, 3, 4, 0, 1] rfl (hK21 s3 μ7)
        · skip
          refine R_aload_n C 2 d_M_mouth_28 rfl rfl ?_
          refine R_iload C 1 d_M_mouth_29 rfl ?_
          refine R_iload_n C 3 d_M_mouth_31 rfl rfl ?_
          refine R_iload_n C 4 d_M_mouth_32 rfl rfl ?_
          refine R_bind (fun r_ h13 => ?_)
          obtain ⟨v11, μ12⟩ := r_
          refine R_callV C mm_0 (mc_0 q _ _) rfl cf_M_holds rfl ml_M_316 im_M_holds sl_M_M_holds_M_holds (c_M_holds (gk C) h13) (by decide) (by decide) rfl rfl (Nat.le_of_ble_eq_true rfl) d_M_mouth_33 ?_
          refine R_if_ne C d_M_mouth_36 (tgt := 42) (by decide) ?_ ?_
          · skip
            refine R_iload_n C 0 d_M_mouth_42 rfl rfl ?_
            refine R_aload_n C 2 d_M_mouth_43 rfl rfl ?_
            refine gf_M_word C fl_M_59 d_M_mouth_44 ?_
            refine R_iload C 1 d_M_mouth_47 rfl ?_
            refine R_iald C mm_16 (mc_16 q _ _) d_M_mouth_49 (fun v14 => ?_)
            refine R_jn (fun K18 => ∀ (j17 : Int32), R sdM q z 5 (φIm ν) (K18 j17) μ12 ν 71 [(0, .ref (q.2.2.1 0)), (1, .int f5), (2, .int f6), (4, .int s4)] [.int j17, .int s3]) ?_ (fun K18 hK18 => ?_)
            · intro j17
              refine R_iadd C d_M_mouth_71 ?_
              refine R_istore_n C (lv' := [(3, .int (s3 + j17)), (0, .ref (q.2.2.1 0)), (1, .int f5), (2, .int f6), (4, .int s4)]) d_M_mouth_72 rfl (by decide) rfl ?_
              exact R_sub [1, 2, 3, 0, 4] rfl (hK21 (s3 + j17) μ12)
            · skip
              refine R_if_ne C d_M_mouth_50 (tgt := 63) (by decide) ?_ ?_
              · skip
                refine R_aload_n C 2 d_M_mouth_63 rfl rfl ?_
                refine gf_M_number C fl_M_62 d_M_mouth_64 ?_
                refine R_iload C 1 d_M_mouth_67 rfl ?_
                refine R_iald C mm_17 (mc_17 q _ _) d_M_mouth_69 (fun v15 => ?_)
                refine R_ineg C d_M_mouth_70 ?_
                exact R_sub [2, 3, 4, 1] rfl (hK18 (-v15))
              · skip
                refine R_aload_n C 2 d_M_mouth_53 rfl rfl ?_
                refine gf_M_number C fl_M_62 d_M_mouth_54 ?_
                refine R_iload C 1 d_M_mouth_57 rfl ?_
                refine R_iald C mm_17 (mc_17 q _ _) d_M_mouth_59 (fun v16 => ?_)
                refine R_goto C d_M_mouth_60 (tgt := 71) (by decide) ?_
                exact R_sub [2, 3, 4, 1] rfl (hK18 v16)
          · skip
            refine R_goto C d_M_mouth_39 (tgt := 73) (by decide) ?_
            exact R_sub [2, 3, 4, 0, 1] rfl (hK21 s3 μ12)
theorem d_M_mouth_79 : decode prog_14_method_44_code 79 = .ok (.aload_n 0, 1) := by decide +kernel
theorem d_M_mouth_80 : decode prog_14_method_44_code 80 = .ok (.iload_n 3, 1) := by decide +kernel
theorem d_M_mouth_81 : decode prog_14_method_44_code 81 = .ok (.invokevirtual 319, 3) := by decide +kernel
theorem d_M_mouth_84 : decode prog_14_method_44_code 84 = .ok (.ireturn, 1) := by decide +kernel
set_option maxRecDepth 10000 in
set_option maxHeartbeats 4000000 in
theorem w_M_mouth {q : QT} {z : ZT} {a1 : Int32} {a2 : Int32} {μ : Mm} {ν : Ml} (C : Ctx sdM q z prog_14_method_44_code "BesideTomModel" 5 2 (some (FieldType.int))) : R sdM q z 5 (φIm ν) (F_M_mouth a1 a2 μ) μ ν 0 [(0, .ref (q.2.2.1 0)), (1, .int a1), (2, .int a2)] [] := by
  unfold F_M_mouth
  refine R_iconst C d_M_mouth_0 (v := 3) (by decide +kernel) ?_
  refine R_istore_n C (lv' := [(3, .int 3), (0, .ref (q.2.2.1 0)), (1, .int a1), (2, .int a2)]) d_M_mouth_1 rfl (by decide) rfl ?_
  refine R_aload_n C 1 d_M_mouth_2 rfl rfl ?_
  refine R_bind (fun v1 h2 => ?_)
  refine R_callV C mm_0 (mc_0 q _ _) rfl cf_M_begin rfl ml_M_302 im_M_begin sl_M_M_begin_M_begin (c_M_begin (gk C) h2) (by decide) (by decide) rfl rfl (Nat.le_of_ble_eq_true rfl) d_M_mouth_3 ?_
  refine R_istore C (lv' := [(4, .int v1), (3, .int 3), (0, .ref (q.2.2.1 0)), (1, .int a1), (2, .int a2)]) d_M_mouth_6 (by decide) rfl ?_
  refine R_sub [1, 0, 2, 3, 4] rfl ?_
  refine W_M_mouth_8 C ?_ fu _ _ _
  intro x22 μ23
  refine R_aload_n C 0 d_M_mouth_79 rfl rfl ?_
  refine R_iload_n C 1 d_M_mouth_80 rfl rfl ?_
  refine R_bind (fun v24 h25 => ?_)
  refine R_callV C mm_0 (mc_0 q _ _) rfl cf_M_least0 rfl ml_M_319 im_M_least0 sl_M_M_least0_M_least0 (c_M_least0 (gk C) h25) (by decide) (by decide) rfl rfl (Nat.le_of_ble_eq_true rfl) d_M_mouth_81 ?_
  exact R_iret C rfl d_M_mouth_84
theorem c_M_mouth {q : QT} (hg : GOk sdM q) {a1 : Int32} {a2 : Int32} {μ : Mm} {ν : Ml} {o : Int32 × Mm} (ho : F_M_mouth a1 a2 μ = some o) : Ct sdM q y_M_mouth prog_14_method_44_code 5 (some (FieldType.int)) 2 [.ref (q.2.2.1 0), .int a1, .int a2] μ ν ((φIm ν) o).1 ((φIm ν) o).2.1 ((φIm ν) o).2.2 := Ct_of rfl hg (fun z C => w_M_mouth C) (Nat.le_of_ble_eq_true rfl) ho
def F_M_moves (a1 : Int32) (a2 : Int32) (μ : Mm) : Option (Mm) := (F_M_takesDesk a1 a2 μ).bind fun μ1 => lt_ (up2 μ1 0 2 0) fun μ3 => some μ3
theorem d_M_moves_0 : decode prog_14_method_18_code 0 = .ok (.aload_n 0, 1) := by decide +kernel
theorem d_M_moves_1 : decode prog_14_method_18_code 1 = .ok (.iload_n 1, 1) := by decide +kernel
theorem d_M_moves_2 : decode prog_14_method_18_code 2 = .ok (.iload_n 2, 1) := by decide +kernel
theorem d_M_moves_3 : decode prog_14_method_18_code 3 = .ok (.invokevirtual 241, 3) := by decide +kernel
theorem d_M_moves_6 : decode prog_14_method_18_code 6 = .ok (.aload_n 0, 1) := by decide +kernel
theorem d_M_moves_7 : decode prog_14_method_18_code 7 = .ok (.iconst 0, 1) := by decide +kernel
theorem d_M_moves_11 : decode prog_14_method_18_code 11 = .ok (.return_, 1) := by decide +kernel
theorem d_M_moves_8 : decode prog_14_method_18_code 8 = .ok (.putfield 16, 3) := by decide +kernel
set_option maxRecDepth 10000 in
set_option maxHeartbeats 4000000 in
theorem w_M_moves {q : QT} {z : ZT} {a1 : Int32} {a2 : Int32} {μ : Mm} {ν : Ml} (C : Ctx sdM q z prog_14_method_18_code "BesideTomModel" 3 2 none) : R sdM q z 3 (φVm ν) (F_M_moves a1 a2 μ) μ ν 0 [(0, .ref (q.2.2.1 0)), (1, .int a1), (2, .int a2)] [] := by
  unfold F_M_moves
  refine R_aload_n C 0 d_M_moves_0 rfl rfl ?_
  refine R_iload_n C 1 d_M_moves_1 rfl rfl ?_
  refine R_iload_n C 2 d_M_moves_2 rfl rfl ?_
  refine R_bind (fun μ1 h2 => ?_)
  refine R_callV C mm_0 (mc_0 q _ _) rfl cf_M_takesDesk rfl ml_M_241 im_M_takesDesk sl_M_M_takesDesk_M_takesDesk (c_M_takesDesk (gk C) h2) (by decide) (by decide) rfl rfl (Nat.le_of_ble_eq_true rfl) d_M_moves_3 ?_
  refine R_aload_n C 0 d_M_moves_6 rfl rfl ?_
  refine R_iconst C d_M_moves_7 (v := 0) (by decide +kernel) ?_
  refine pf_M_worn C fl_M_16 d_M_moves_8 (fun μ3 => ?_)
  exact R_vret C rfl d_M_moves_11
theorem c_M_moves {q : QT} (hg : GOk sdM q) {a1 : Int32} {a2 : Int32} {μ : Mm} {ν : Ml} {o : Mm} (ho : F_M_moves a1 a2 μ = some o) : Ct sdM q y_M_moves prog_14_method_18_code 3 none 2 [.ref (q.2.2.1 0), .int a1, .int a2] μ ν ((φVm ν) o).1 ((φVm ν) o).2.1 ((φVm ν) o).2.2 := Ct_of rfl hg (fun z C => w_M_moves C) (Nat.le_of_ble_eq_true rfl) ho
def F_M_read (a1 : Int32) (a2 : Int32) (μ : Mm) (ν : Ml) : Option (Int64) := (F_M_isTape a1).bind fun v1 => jn (α := Unit) (fun K8 => (if v1 = 0 then K8 () else (rdI (μ 65) 6 a1).bind fun v3 => (if v3 < 0 then K8 () else (rdI (μ 66) 6 a1).bind fun v4 => (F_M_in a2 0 (v4 - 1)).bind fun v5 => (if v5 = 0 then K8 () else (rdL (ν 67) 360 ((60 * a1) + a2)).bind fun v7 => some v7)))) (fun (_ : Unit) => some (-9223372036854775808))
theorem d_M_read_0 : decode prog_14_method_108_code 0 = .ok (.aload_n 0, 1) := by decide +kernel
theorem d_M_read_1 : decode prog_14_method_108_code 1 = .ok (.iload_n 1, 1) := by decide +kernel
theorem d_M_read_2 : decode prog_14_method_108_code 2 = .ok (.invokevirtual 420, 3) := by decide +kernel
theorem d_M_read_8 : decode prog_14_method_108_code 8 = .ok (.aload_n 0, 1) := by decide +kernel
theorem d_M_read_12 : decode prog_14_method_108_code 12 = .ok (.iload_n 1, 1) := by decide +kernel
theorem d_M_read_17 : decode prog_14_method_108_code 17 = .ok (.aload_n 0, 1) := by decide +kernel
theorem d_M_read_18 : decode prog_14_method_108_code 18 = .ok (.iload_n 2, 1) := by decide +kernel
theorem d_M_read_19 : decode prog_14_method_108_code 19 = .ok (.iconst 0, 1) := by decide +kernel
theorem d_M_read_20 : decode prog_14_method_108_code 20 = .ok (.aload_n 0, 1) := by decide +kernel
theorem d_M_read_24 : decode prog_14_method_108_code 24 = .ok (.iload_n 1, 1) := by decide +kernel
theorem d_M_read_26 : decode prog_14_method_108_code 26 = .ok (.iconst 1, 1) := by decide +kernel
theorem d_M_read_27 : decode prog_14_method_108_code 27 = .ok (.isub, 1) := by decide +kernel
theorem d_M_read_28 : decode prog_14_method_108_code 28 = .ok (.invokevirtual 225, 3) := by decide +kernel
theorem d_M_read_40 : decode prog_14_method_108_code 40 = .ok (.aload_n 0, 1) := by decide +kernel
theorem d_M_read_44 : decode prog_14_method_108_code 44 = .ok (.bipush 60, 2) := by decide +kernel
theorem d_M_read_46 : decode prog_14_method_108_code 46 = .ok (.iload_n 1, 1) := by decide +kernel
theorem d_M_read_47 : decode prog_14_method_108_code 47 = .ok (.imul, 1) := by decide +kernel
theorem d_M_read_48 : decode prog_14_method_108_code 48 = .ok (.iload_n 2, 1) := by decide +kernel
theorem d_M_read_49 : decode prog_14_method_108_code 49 = .ok (.iadd, 1) := by decide +kernel
theorem d_M_read_51 : decode prog_14_method_108_code 51 = .ok (.lreturn, 1) := by decide +kernel
theorem d_M_read_41 : decode prog_14_method_108_code 41 = .ok (.getfield 214, 3) := by decide +kernel
theorem d_M_read_31 : decode prog_14_method_108_code 31 = .ok (.ifCond .ne 9, 3) := by decide +kernel
theorem d_M_read_21 : decode prog_14_method_108_code 21 = .ok (.getfield 211, 3) := by decide +kernel
theorem d_M_read_14 : decode prog_14_method_108_code 14 = .ok (.ifCond .lt 20, 3) := by decide +kernel
theorem d_M_read_9 : decode prog_14_method_108_code 9 = .ok (.getfield 208, 3) := by decide +kernel
theorem d_M_read_5 : decode prog_14_method_108_code 5 = .ok (.ifCond .eq 29, 3) := by decide +kernel
theorem d_M_read_34 : decode prog_14_method_108_code 34 = .ok (.ldc2_w 414, 3) := by decide +kernel
theorem d_M_read_37 : decode prog_14_method_108_code 37 = .ok (.goto 14, 3) := by decide +kernel
theorem d_M_read_13 : decode prog_14_method_108_code 13 = .ok (.iaload, 1) := by decide +kernel
theorem d_M_read_25 : decode prog_14_method_108_code 25 = .ok (.iaload, 1) := by decide +kernel
theorem d_M_read_50 : decode prog_14_method_108_code 50 = .ok (.laload, 1) := by decide +kernel
set_option maxRecDepth 10000 in
set_option maxHeartbeats 4000000 in
theorem w_M_read {q : QT} {z : ZT} {a1 : Int32} {a2 : Int32} {μ : Mm} {ν : Ml} (C : Ctx sdM q z prog_14_method_108_code "BesideTomModel" 3 2 (some (FieldType.long))) : R sdM q z 3 (φL μ ν) (F_M_read a1 a2 μ ν) μ ν 0 [(0, .ref (q.2.2.1 0)), (1, .int a1), (2, .int a2)] [] := by
  unfold F_M_read
  refine R_aload_n C 0 d_M_read_0 rfl rfl ?_
  refine R_iload_n C 1 d_M_read_1 rfl rfl ?_
  refine R_bind (fun v1 h2 => ?_)
  refine R_callV C mm_0 (mc_0 q _ _) rfl cf_M_isTape rfl ml_M_420 im_M_isTape sl_M_M_isTape_M_isTape (c_M_isTape (gk C) h2) (by decide) (by decide) rfl rfl (Nat.le_of_ble_eq_true rfl) d_M_read_2 ?_
  refine R_jn (fun K8 => R sdM q z 3 (φL μ ν) (K8 ()) μ ν 34 [] []) ?_ (fun K8 hK8 => ?_)
  · skip
    refine R_ldc2 C k_M_414 d_M_read_34 ?_
    refine R_goto C d_M_read_37 (tgt := 51) (by decide) ?_
    exact R_lret C rfl d_M_read_51
  · skip
    refine R_if_eq C d_M_read_5 (tgt := 34) (by decide) ?_ ?_
    · skip
      exact R_sub [] rfl (hK8)
    · skip
      refine R_aload_n C 0 d_M_read_8 rfl rfl ?_
      refine gf_M_sort C fl_M_208 d_M_read_9 ?_
      refine R_iload_n C 1 d_M_read_12 rfl rfl ?_
      refine R_iald C mm_65 (mc_65 q _ _) d_M_read_13 (fun v3 => ?_)
      refine R_if_lt C d_M_read_14 (tgt := 34) (by decide) ?_ ?_
      · skip
        exact R_sub [] rfl (hK8)
      · skip
        refine R_aload_n C 0 d_M_read_17 rfl rfl ?_
        refine R_iload_n C 2 d_M_read_18 rfl rfl ?_
        refine R_iconst C d_M_read_19 (v := 0) (by decide +kernel) ?_
        refine R_aload_n C 0 d_M_read_20 rfl rfl ?_
        refine gf_M_length C fl_M_211 d_M_read_21 ?_
        refine R_iload_n C 1 d_M_read_24 rfl rfl ?_
        refine R_iald C mm_66 (mc_66 q _ _) d_M_read_25 (fun v4 => ?_)
        refine R_iconst C d_M_read_26 (v := 1) (by decide +kernel) ?_
        refine R_isub C d_M_read_27 ?_
        refine R_bind (fun v5 h6 => ?_)
        refine R_callV C mm_0 (mc_0 q _ _) rfl cf_M_in rfl ml_M_225 im_M_in sl_M_M_in_M_in (c_M_in (gk C) h6) (by decide) (by decide) rfl rfl (Nat.le_of_ble_eq_true rfl) d_M_read_28 ?_
        refine R_if_ne C d_M_read_31 (tgt := 40) (by decide) ?_ ?_
        · skip
          refine R_aload_n C 0 d_M_read_40 rfl rfl ?_
          refine gf_M_item C fl_M_214 d_M_read_41 ?_
          refine R_bipush C d_M_read_44 (v := 60) (by decide +kernel) ?_
          refine R_iload_n C 1 d_M_read_46 rfl rfl ?_
          refine R_imul C d_M_read_47 ?_
          refine R_iload_n C 2 d_M_read_48 rfl rfl ?_
          refine R_iadd C d_M_read_49 ?_
          refine R_lald C mm_67 (mc_67 q _ _) d_M_read_50 (fun v7 => ?_)
          exact R_lret C rfl d_M_read_51
        · skip
          exact R_sub [] rfl (hK8)
theorem c_M_read {q : QT} (hg : GOk sdM q) {a1 : Int32} {a2 : Int32} {μ : Mm} {ν : Ml} {o : Int64} (ho : F_M_read a1 a2 μ ν = some o) : Ct sdM q y_M_read prog_14_method_108_code 3 (some (FieldType.long)) 2 [.ref (q.2.2.1 0), .int a1, .int a2] μ ν ((φL μ ν) o).1 ((φL μ ν) o).2.1 ((φL μ ν) o).2.2 := Ct_of rfl hg (fun z C => w_M_read C) (Nat.le_of_ble_eq_true rfl) ho
def L_M_shift_104 (f12 : Int32) (f13 : Int32) (f14 : Int32) (f15 : Int32) (f16 : Int32) (μ : Mm) (k : Ml → Option (Int32 × Ml)) : Nat → Int32 → Ml → Option (Int32 × Ml)
  | 0, _, _ => none
  | n + 1, s11, ν17 => (if f16 ≤ s11 then k ν17 else (rdL (ν17 67) 360 (((60 * f12) + f13) + s11)).bind fun v18 => (wrL ν17 68 60 s11 v18).bind fun ν19 => L_M_shift_104 f12 f13 f14 f15 f16 μ k n (s11 + 1) ν19)
def L_M_shift_141 (f22 : Int32) (f23 : Int32) (f24 : Int32) (μ : Mm) (k : Ml → Option (Int32 × Ml)) : Nat → Int32 → Ml → Option (Int32 × Ml)
  | 0, _, _ => none
  | n + 1, s21, ν25 => (if f24 ≤ s21 then k ν25 else (rdL (ν25 68) 60 s21).bind fun v26 => (wrL ν25 67 360 (((60 * f22) + f23) + s21) v26).bind fun ν27 => L_M_shift_141 f22 f23 f24 μ k n (s21 + 1) ν27)
def F_M_shift (a1 : Int32) (a2 : Int32) (a3 : Int32) (a4 : Int32) (a5 : Int32) (μ : Mm) (ν : Ml) : Option (Int32 × Ml) := (F_M_isTape a1).bind fun v1 => (if v1 = 0 then some ((-1), ν) else (F_M_isTape a3).bind fun v3 => (if v3 = 0 then some ((-1), ν) else (rdI (μ 65) 6 a1).bind fun v5 => (if v5 < 0 then some ((-11), ν) else (rdI (μ 65) 6 a3).bind fun v6 => (if 0 ≤ v6 then (rdI (μ 65) 6 a1).bind fun v7 => (rdI (μ 65) 6 a3).bind fun v8 => (if v7 = v8 then (if a5 < 0 then some ((-13), ν) else (if a2 < 0 then some ((-13), ν) else (if a4 < 0 then some ((-13), ν) else (rdI (μ 66) 6 a1).bind fun v9 => (if (v9 - a5) < a2 then some ((-13), ν) else (rdI (μ 66) 6 a3).bind fun v10 => (if a4 ≤ (v10 - a5) then L_M_shift_104 a1 a2 a3 a4 a5 μ (fun (ν20 : Ml) => L_M_shift_141 a3 a4 a5 μ (fun (ν28 : Ml) => some (a5, ν28)) fu 0 ν20) fu 0 ν else some ((-13), ν)))))) else some ((-12), ν)) else some ((-11), ν)))))
theorem d_M_shift_0 : decode prog_14_method_109_code 0 = .ok (.aload_n 0, 1) := by decide +kernel
theorem d_M_shift_1 : decode prog_14_method_109_code 1 = .ok (.iload_n 1, 1) := by decide +kernel
theorem d_M_shift_2 : decode prog_14_method_109_code 2 = .ok (.invokevirtual 420, 3) := by decide +kernel
theorem d_M_shift_16 : decode prog_14_method_109_code 16 = .ok (.iconst (-1), 1) := by decide +kernel
theorem d_M_shift_17 : decode prog_14_method_109_code 17 = .ok (.ireturn, 1) := by decide +kernel
theorem d_M_shift_8 : decode prog_14_method_109_code 8 = .ok (.aload_n 0, 1) := by decide +kernel
theorem d_M_shift_9 : decode prog_14_method_109_code 9 = .ok (.iload_n 3, 1) := by decide +kernel
theorem d_M_shift_10 : decode prog_14_method_109_code 10 = .ok (.invokevirtual 420, 3) := by decide +kernel
theorem d_M_shift_18 : decode prog_14_method_109_code 18 = .ok (.aload_n 0, 1) := by decide +kernel
theorem d_M_shift_22 : decode prog_14_method_109_code 22 = .ok (.iload_n 1, 1) := by decide +kernel
theorem d_M_shift_36 : decode prog_14_method_109_code 36 = .ok (.bipush (-11), 2) := by decide +kernel
theorem d_M_shift_38 : decode prog_14_method_109_code 38 = .ok (.ireturn, 1) := by decide +kernel
theorem d_M_shift_27 : decode prog_14_method_109_code 27 = .ok (.aload_n 0, 1) := by decide +kernel
theorem d_M_shift_31 : decode prog_14_method_109_code 31 = .ok (.iload_n 3, 1) := by decide +kernel
theorem d_M_shift_39 : decode prog_14_method_109_code 39 = .ok (.aload_n 0, 1) := by decide +kernel
theorem d_M_shift_43 : decode prog_14_method_109_code 43 = .ok (.iload_n 1, 1) := by decide +kernel
theorem d_M_shift_45 : decode prog_14_method_109_code 45 = .ok (.aload_n 0, 1) := by decide +kernel
theorem d_M_shift_49 : decode prog_14_method_109_code 49 = .ok (.iload_n 3, 1) := by decide +kernel
theorem d_M_shift_57 : decode prog_14_method_109_code 57 = .ok (.iload 5, 2) := by decide +kernel
theorem d_M_shift_98 : decode prog_14_method_109_code 98 = .ok (.bipush (-13), 2) := by decide +kernel
theorem d_M_shift_100 : decode prog_14_method_109_code 100 = .ok (.ireturn, 1) := by decide +kernel
theorem d_M_shift_62 : decode prog_14_method_109_code 62 = .ok (.iload_n 2, 1) := by decide +kernel
theorem d_M_shift_66 : decode prog_14_method_109_code 66 = .ok (.iload 4, 2) := by decide +kernel
theorem d_M_shift_71 : decode prog_14_method_109_code 71 = .ok (.iload_n 2, 1) := by decide +kernel
theorem d_M_shift_72 : decode prog_14_method_109_code 72 = .ok (.aload_n 0, 1) := by decide +kernel
theorem d_M_shift_76 : decode prog_14_method_109_code 76 = .ok (.iload_n 1, 1) := by decide +kernel
theorem d_M_shift_78 : decode prog_14_method_109_code 78 = .ok (.iload 5, 2) := by decide +kernel
theorem d_M_shift_80 : decode prog_14_method_109_code 80 = .ok (.isub, 1) := by decide +kernel
theorem d_M_shift_84 : decode prog_14_method_109_code 84 = .ok (.iload 4, 2) := by decide +kernel
theorem d_M_shift_86 : decode prog_14_method_109_code 86 = .ok (.aload_n 0, 1) := by decide +kernel
theorem d_M_shift_90 : decode prog_14_method_109_code 90 = .ok (.iload_n 3, 1) := by decide +kernel
theorem d_M_shift_92 : decode prog_14_method_109_code 92 = .ok (.iload 5, 2) := by decide +kernel
theorem d_M_shift_94 : decode prog_14_method_109_code 94 = .ok (.isub, 1) := by decide +kernel
theorem d_M_shift_101 : decode prog_14_method_109_code 101 = .ok (.iconst 0, 1) := by decide +kernel
theorem d_M_shift_102 : decode prog_14_method_109_code 102 = .ok (.istore 6, 2) := by decide +kernel
theorem d_M_shift_104 : decode prog_14_method_109_code 104 = .ok (.iload 6, 2) := by decide +kernel
theorem d_M_shift_106 : decode prog_14_method_109_code 106 = .ok (.iload 5, 2) := by decide +kernel
theorem d_M_shift_111 : decode prog_14_method_109_code 111 = .ok (.aload_n 0, 1) := by decide +kernel
theorem d_M_shift_115 : decode prog_14_method_109_code 115 = .ok (.iload 6, 2) := by decide +kernel
theorem d_M_shift_117 : decode prog_14_method_109_code 117 = .ok (.aload_n 0, 1) := by decide +kernel
theorem d_M_shift_121 : decode prog_14_method_109_code 121 = .ok (.bipush 60, 2) := by decide +kernel
theorem d_M_shift_123 : decode prog_14_method_109_code 123 = .ok (.iload_n 1, 1) := by decide +kernel
theorem d_M_shift_124 : decode prog_14_method_109_code 124 = .ok (.imul, 1) := by decide +kernel
theorem d_M_shift_125 : decode prog_14_method_109_code 125 = .ok (.iload_n 2, 1) := by decide +kernel
theorem d_M_shift_126 : decode prog_14_method_109_code 126 = .ok (.iadd, 1) := by decide +kernel
theorem d_M_shift_127 : decode prog_14_method_109_code 127 = .ok (.iload 6, 2) := by decide +kernel
theorem d_M_shift_129 : decode prog_14_method_109_code 129 = .ok (.iadd, 1) := by decide +kernel
theorem d_M_shift_132 : decode prog_14_method_109_code 132 = .ok (.iinc 6 1, 3) := by decide +kernel
theorem d_M_shift_135 : decode prog_14_method_109_code 135 = .ok (.goto (-31), 3) := by decide +kernel
theorem d_M_shift_131 : decode prog_14_method_109_code 131 = .ok (.lastore, 1) := by decide +kernel
theorem d_M_shift_118 : decode prog_14_method_109_code 118 = .ok (.getfield 214, 3) := by decide +kernel
theorem d_M_shift_112 : decode prog_14_method_109_code 112 = .ok (.getfield 218, 3) := by decide +kernel
theorem d_M_shift_108 : decode prog_14_method_109_code 108 = .ok (.if_icmp .ge 30, 3) := by decide +kernel
theorem d_M_shift_130 : decode prog_14_method_109_code 130 = .ok (.laload, 1) := by decide +kernel
set_option maxRecDepth 10000 in
set_option maxHeartbeats 4000000 in
theorem W_M_shift_104 {q : QT} {z : ZT} {μ : Mm} {f12 : Int32} {f13 : Int32} {f14 : Int32} {f15 : Int32} {f16 : Int32} {k : Ml → Option (Int32 × Ml)} (C : Ctx sdM q z prog_14_method_109_code "BesideTomModel" 7 2 (some (FieldType.int))) (hk : ∀ (ne_ : Ml), R sdM q z 7 (φIl μ) (k ne_) μ ne_ 138 [(0, .ref (q.2.2.1 0)), (3, .int f14), (4, .int f15), (5, .int f16)] []) : ∀ (n : Nat) (s11 : Int32) (ν17 : Ml), R sdM q z 7 (φIl μ) (L_M_shift_104 f12 f13 f14 f15 f16 μ k n s11 ν17) μ ν17 104 [(6, .int s11), (0, .ref (q.2.2.1 0)), (1, .int f12), (2, .int f13), (3, .int f14), (4, .int f15), (5, .int f16)] [] := by
  intro n
  induction n with
  | zero =>
    intros
    exact R_none
  | succ n ih =>
    intro s11 ν17
    rw [L_M_shift_104]
    refine R_iload C 0 d_M_shift_104 rfl ?_
    refine R_iload C 6 d_M_shift_106 rfl ?_
    refine R_icmp_ge C d_M_shift_108 (tgt := 138) (by decide) ?_ ?_
    · skip
      exact R_sub [1, 4, 5, 6] rfl (hk ν17)
    · skip
      refine R_aload_n C 1 d_M_shift_111 rfl rfl ?_
      refine gf_M_aside C fl_M_218 d_M_shift_112 ?_
      refine R_iload C 0 d_M_shift_115 rfl ?_
      refine R_aload_n C 1 d_M_shift_117 rfl rfl ?_
      refine gf_M_item C fl_M_214 d_M_shift_118 ?_
      refine R_bipush C d_M_shift_121 (v := 60) (by decide +kernel) ?_
      refine R_iload_n C 2 d_M_shift_123 rfl rfl ?_
      refine R_imul C d_M_shift_124 ?_
      refine R_iload_n C 3 d_M_shift_125 rfl rfl ?_
      refine R_iadd C d_M_shift_126 ?_
      refine R_iload C 0 d_M_shift_127 rfl ?_
      refine R_iadd C d_M_shift_129 ?_
      refine R_lald C mm_67 (mc_67 q _ _) d_M_shift_130 (fun v18 => ?_)
      refine R_last C mm_68 (fun h => mc_68 q _ h) d_M_shift_131 (fun ν19 => ?_)
      refine R_iinc C 0 d_M_shift_132 rfl (iinc_v _ (v := 1) (by decide +kernel)) (lv' := [(6, .int (s11 + 1)), (0, .ref (q.2.2.1 0)), (1, .int f12), (2, .int f13), (3, .int f14), (4, .int f15), (5, .int f16)]) (by decide) rfl ?_
      refine R_goto C d_M_shift_135 (tgt := 104) (by decide) ?_
      exact R_sub [0, 1, 2, 3, 4, 5, 6] rfl (ih (s11 + 1) ν19)
theorem d_M_shift_138 : decode prog_14_method_109_code 138 = .ok (.iconst 0, 1) := by decide +kernel
theorem d_M_shift_139 : decode prog_14_method_109_code 139 = .ok (.istore 6, 2) := by decide +kernel
theorem d_M_shift_141 : decode prog_14_method_109_code 141 = .ok (.iload 6, 2) := by decide +kernel
theorem d_M_shift_143 : decode prog_14_method_109_code 143 = .ok (.iload 5, 2) := by decide +kernel
theorem d_M_shift_148 : decode prog_14_method_109_code 148 = .ok (.aload_n 0, 1) := by decide +kernel
theorem d_M_shift_152 : decode prog_14_method_109_code 152 = .ok (.bipush 60, 2) := by decide +kernel
theorem d_M_shift_154 : decode prog_14_method_109_code 154 = .ok (.iload_n 3, 1) := by decide +kernel
theorem d_M_shift_155 : decode prog_14_method_109_code 155 = .ok (.imul, 1) := by decide +kernel
theorem d_M_shift_156 : decode prog_14_method_109_code 156 = .ok (.iload 4, 2) := by decide +kernel
theorem d_M_shift_158 : decode prog_14_method_109_code 158 = .ok (.iadd, 1) := by decide +kernel
theorem d_M_shift_159 : decode prog_14_method_109_code 159 = .ok (.iload 6, 2) := by decide +kernel
theorem d_M_shift_161 : decode prog_14_method_109_code 161 = .ok (.iadd, 1) := by decide +kernel
theorem d_M_shift_162 : decode prog_14_method_109_code 162 = .ok (.aload_n 0, 1) := by decide +kernel
theorem d_M_shift_166 : decode prog_14_method_109_code 166 = .ok (.iload 6, 2) := by decide +kernel
theorem d_M_shift_170 : decode prog_14_method_109_code 170 = .ok (.iinc 6 1, 3) := by decide +kernel
theorem d_M_shift_173 : decode prog_14_method_109_code 173 = .ok (.goto (-32), 3) := by decide +kernel
theorem d_M_shift_169 : decode prog_14_method_109_code 169 = .ok (.lastore, 1) := by decide +kernel
theorem d_M_shift_163 : decode prog_14_method_109_code 163 = .ok (.getfield 218, 3) := by decide +kernel
theorem d_M_shift_149 : decode prog_14_method_109_code 149 = .ok (.getfield 214, 3) := by decide +kernel
theorem d_M_shift_145 : decode prog_14_method_109_code 145 = .ok (.if_icmp .ge 31, 3) := by decide +kernel
theorem d_M_shift_168 : decode prog_14_method_109_code 168 = .ok (.laload, 1) := by decide +kernel
set_option maxRecDepth 10000 in
set_option maxHeartbeats 4000000 in
theorem W_M_shift_141 {q : QT} {z : ZT} {μ : Mm} {f22 : Int32} {f23 : Int32} {f24 : Int32} {k : Ml → Option (Int32 × Ml)} (C : Ctx sdM q z prog_14_method_109_code "BesideTomModel" 7 2 (some (FieldType.int))) (hk : ∀ (ne_ : Ml), R sdM q z 7 (φIl μ) (k ne_) μ ne_ 176 [(5, .int f24)] []) : ∀ (n : Nat) (s21 : Int32) (ν25 : Ml), R sdM q z 7 (φIl μ) (L_M_shift_141 f22 f23 f24 μ k n s21 ν25) μ ν25 141 [(6, .int s21), (0, .ref (q.2.2.1 0)), (3, .int f22), (4, .int f23), (5, .int f24)] [] := by
  intro n
  induction n with
  | zero =>
    intros
    exact R_none
  | succ n ih =>
    intro s21 ν25
    rw [L_M_shift_141]
    refine R_iload C 0 d_M_shift_141 rfl ?_
    refine R_iload C 4 d_M_shift_143 rfl ?_
    refine R_icmp_ge C d_M_shift_145 (tgt := 176) (by decide) ?_ ?_
    · skip
      exact R_sub [4] rfl (hk ν25)
    · skip
      refine R_aload_n C 1 d_M_shift_148 rfl rfl ?_
      refine gf_M_item C fl_M_214 d_M_shift_149 ?_
      refine R_bipush C d_M_shift_152 (v := 60) (by decide +kernel) ?_
      refine R_iload_n C 2 d_M_shift_154 rfl rfl ?_
      refine R_imul C d_M_shift_155 ?_
      refine R_iload C 3 d_M_shift_156 rfl ?_
      refine R_iadd C d_M_shift_158 ?_
      refine R_iload C 0 d_M_shift_159 rfl ?_
      refine R_iadd C d_M_shift_161 ?_
      refine R_aload_n C 1 d_M_shift_162 rfl rfl ?_
      refine gf_M_aside C fl_M_218 d_M_shift_163 ?_
      refine R_iload C 0 d_M_shift_166 rfl ?_
      refine R_lald C mm_68 (mc_68 q _ _) d_M_shift_168 (fun v26 => ?_)
      refine R_last C mm_67 (fun h => mc_67 q _ h) d_M_shift_169 (fun ν27 => ?_)
      refine R_iinc C 0 d_M_shift_170 rfl (iinc_v _ (v := 1) (by decide +kernel)) (lv' := [(6, .int (s21 + 1)), (0, .ref (q.2.2.1 0)), (3, .int f22), (4, .int f23), (5, .int f24)]) (by decide) rfl ?_
      refine R_goto C d_M_shift_173 (tgt := 141) (by decide) ?_
      exact R_sub [0, 1, 2, 3, 4] rfl (ih (s21 + 1) ν27)
theorem d_M_shift_176 : decode prog_14_method_109_code 176 = .ok (.iload 5, 2) := by decide +kernel
theorem d_M_shift_178 : decode prog_14_method_109_code 178 = .ok (.ireturn, 1) := by decide +kernel
theorem d_M_shift_95 : decode prog_14_method_109_code 95 = .ok (.if_icmp .le 6, 3) := by decide +kernel
theorem d_M_shift_87 : decode prog_14_method_109_code 87 = .ok (.getfield 211, 3) := by decide +kernel
theorem d_M_shift_81 : decode prog_14_method_109_code 81 = .ok (.if_icmp .gt 17, 3) := by decide +kernel
theorem d_M_shift_73 : decode prog_14_method_109_code 73 = .ok (.getfield 211, 3) := by decide +kernel
theorem d_M_shift_68 : decode prog_14_method_109_code 68 = .ok (.ifCond .lt 30, 3) := by decide +kernel
theorem d_M_shift_63 : decode prog_14_method_109_code 63 = .ok (.ifCond .lt 35, 3) := by decide +kernel
theorem d_M_shift_59 : decode prog_14_method_109_code 59 = .ok (.ifCond .lt 39, 3) := by decide +kernel
theorem d_M_shift_54 : decode prog_14_method_109_code 54 = .ok (.bipush (-12), 2) := by decide +kernel
theorem d_M_shift_56 : decode prog_14_method_109_code 56 = .ok (.ireturn, 1) := by decide +kernel
theorem d_M_shift_51 : decode prog_14_method_109_code 51 = .ok (.if_icmp .eq 6, 3) := by decide +kernel
theorem d_M_shift_46 : decode prog_14_method_109_code 46 = .ok (.getfield 208, 3) := by decide +kernel
theorem d_M_shift_40 : decode prog_14_method_109_code 40 = .ok (.getfield 208, 3) := by decide +kernel
theorem d_M_shift_33 : decode prog_14_method_109_code 33 = .ok (.ifCond .ge 6, 3) := by decide +kernel
theorem d_M_shift_28 : decode prog_14_method_109_code 28 = .ok (.getfield 208, 3) := by decide +kernel
theorem d_M_shift_24 : decode prog_14_method_109_code 24 = .ok (.ifCond .lt 12, 3) := by decide +kernel
theorem d_M_shift_19 : decode prog_14_method_109_code 19 = .ok (.getfield 208, 3) := by decide +kernel
theorem d_M_shift_13 : decode prog_14_method_109_code 13 = .ok (.ifCond .ne 5, 3) := by decide +kernel
theorem d_M_shift_5 : decode prog_14_method_109_code 5 = .ok (.ifCond .eq 11, 3) := by decide +kernel
theorem d_M_shift_23 : decode prog_14_method_109_code 23 = .ok (.iaload, 1) := by decide +kernel
theorem d_M_shift_32 : decode prog_14_method_109_code 32 = .ok (.iaload, 1) := by decide +kernel
theorem d_M_shift_44 : decode prog_14_method_109_code 44 = .ok (.iaload, 1) := by decide +kernel
theorem d_M_shift_50 : decode prog_14_method_109_code 50 = .ok (.iaload, 1) := by decide +kernel
theorem d_M_shift_77 : decode prog_14_method_109_code 77 = .ok (.iaload, 1) := by decide +kernel
theorem d_M_shift_91 : decode prog_14_method_109_code 91 = .ok (.iaload, 1) := by decide +kernel
set_option maxRecDepth 10000 in
set_option maxHeartbeats 4000000 in
theorem w_M_shift {q : QT} {z : ZT} {a1 : Int32} {a2 : Int32} {a3 : Int32} {a4 : Int32} {a5 : Int32} {μ : Mm} {ν : Ml} (C : Ctx sdM q z prog_14_method_109_code "BesideTomModel" 7 2 (some (FieldType.int))) : R sdM q z 7 (φIl μ) (F_M_shift a1 a2 a3 a4 a5 μ ν) μ ν 0 [(0, .ref (q.2.2.1 0)), (1, .int a1), (2, .int a2), (3, .int a3), (4, .int a4), (5, .int a5)] [] := by
  unfold F_M_shift
  refine R_aload_n C 0 d_M_shift_0 rfl rfl ?_
  refine R_iload_n C 1 d_M_shift_1 rfl rfl ?_
  refine R_bind (fun v1 h2 => ?_)
  refine R_callV C mm_0 (mc_0 q _ _) rfl cf_M_isTape rfl ml_M_420 im_M_isTape sl_M_M_isTape_M_isTape (c_M_isTape (gk C) h2) (by decide) (by decide) rfl rfl (Nat.le_of_ble_eq_true rfl) d_M_shift_2 ?_
  refine R_if_eq C d_M_shift_5 (tgt := 16) (by decide) ?_ ?_
  · skip
    refine R_iconst C d_M_shift_16 (v := (-1)) (by decide +kernel) ?_
    exact R_iret C rfl d_M_shift_17
  · skip
    refine R_aload_n C 0 d_M_shift_8 rfl rfl ?_
    refine R_iload_n C 3 d_M_shift_9 rfl rfl ?_
    refine R_bind (fun v3 h4 => ?_)
    refine R_callV C mm_0 (mc_0 q _ _) rfl cf_M_isTape rfl ml_M_420 im_M_isTape sl_M_M_isTape_M_isTape (c_M_isTape (gk C) h4) (by decide) (by decide) rfl rfl (Nat.le_of_ble_eq_true rfl) d_M_shift_10 ?_
    refine R_if_ne C d_M_shift_13 (tgt := 18) (by decide) ?_ ?_
    · skip
      refine R_aload_n C 0 d_M_shift_18 rfl rfl ?_
      refine gf_M_sort C fl_M_208 d_M_shift_19 ?_
      refine R_iload_n C 1 d_M_shift_22 rfl rfl ?_
      refine R_iald C mm_65 (mc_65 q _ _) d_M_shift_23 (fun v5 => ?_)
      refine R_if_lt C d_M_shift_24 (tgt := 36) (by decide) ?_ ?_
      · skip
        refine R_bipush C d_M_shift_36 (v := (-11)) (by decide +kernel) ?_
        exact R_iret C rfl d_M_shift_38
      · skip
        refine R_aload_n C 0 d_M_shift_27 rfl rfl ?_
        refine gf_M_sort C fl_M_208 d_M_shift_28 ?_
        refine R_iload_n C 3 d_M_shift_31 rfl rfl ?_
        refine R_iald C mm_65 (mc_65 q _ _) d_M_shift_32 (fun v6 => ?_)
        refine R_if_ge C d_M_shift_33 (tgt := 39) (by decide) ?_ ?_
        · skip
          refine R_aload_n C 0 d_M_shift_39 rfl rfl ?_
          refine gf_M_sort C fl_M_208 d_M_shift_40 ?_
          refine R_iload_n C 1 d_M_shift_43 rfl rfl ?_
          refine R_iald C mm_65 (mc_65 q _ _) d_M_shift_44 (fun v7 => ?_)
          refine R_aload_n C 0 d_M_shift_45 rfl rfl ?_
          refine gf_M_sort C fl_M_208 d_M_shift_46 ?_
          refine R_iload_n C 3 d_M_shift_49 rfl rfl ?_
          refine R_iald C mm_65 (mc_65 q _ _) d_M_shift_50 (fun v8 => ?_)
          refine R_icmp_eq C d_M_shift_51 (tgt := 57) (by decide) ?_ ?_
          · skip
            refine R_iload C 5 d_M_shift_57 rfl ?_
            refine R_if_lt C d_M_shift_59 (tgt := 98) (by decide) ?_ ?_
            · skip
              refine R_bipush C d_M_shift_98 (v := (-13)) (by decide +kernel) ?_
              exact R_iret C rfl d_M_shift_100
            · skip
              refine R_iload_n C 2 d_M_shift_62 rfl rfl ?_
              refine R_if_lt C d_M_shift_63 (tgt := 98) (by decide) ?_ ?_
              · skip
                refine R_bipush C d_M_shift_98 (v := (-13)) (by decide +kernel) ?_
                exact R_iret C rfl d_M_shift_100
              · skip
                refine R_iload C 4 d_M_shift_66 rfl ?_
                refine R_if_lt C d_M_shift_68 (tgt := 98) (by decide) ?_ ?_
                · skip
                  refine R_bipush C d_M_shift_98 (v := (-13)) (by decide +kernel) ?_
                  exact R_iret C rfl d_M_shift_100
                · skip
                  refine R_iload_n C 2 d_M_shift_71 rfl rfl ?_
                  refine R_aload_n C 0 d_M_shift_72 rfl rfl ?_
                  refine gf_M_length C fl_M_211 d_M_shift_73 ?_
                  refine R_iload_n C 1 d_M_shift_76 rfl rfl ?_
                  refine R_iald C mm_66 (mc_66 q _ _) d_M_shift_77 (fun v9 => ?_)
                  refine R_iload C 5 d_M_shift_78 rfl ?_
                  refine R_isub C d_M_shift_80 ?_
                  refine R_icmp_gt C d_M_shift_81 (tgt := 98) (by decide) ?_ ?_
                  · skip
                    refine R_bipush C d_M_shift_98 (v := (-13)) (by decide +kernel) ?_
                    exact R_iret C rfl d_M_shift_100
                  · skip
                    refine R_iload C 4 d_M_shift_84 rfl ?_
                    refine R_aload_n C 0 d_M_shift_86 rfl rfl ?_
                    refine gf_M_length C fl_M_211 d_M_shift_87 ?_
                    refine R_iload_n C 3 d_M_shift_90 rfl rfl ?_
                    refine R_iald C mm_66 (mc_66 q _ _) d_M_shift_91 (fun v10 => ?_)
                    refine R_iload C 5 d_M_shift_92 rfl ?_
                    refine R_isub C d_M_shift_94 ?_
                    refine R_icmp_le C d_M_shift_95 (tgt := 101) (by decide) ?_ ?_
                    · skip
                      refine R_iconst C d_M_shift_101 (v := 0) (by decide +kernel) ?_
                      refine R_istore C (lv' := [(6, .int 0), (0, .ref (q.2.2.1 0)), (1, .int a1), (2, .int a2), (3, .int a3), (4, .int a4), (5, .int a5)]) d_M_shift_102 (by decide) rfl ?_
                      refine R_sub [0, 1, 2, 3, 4, 5, 6] rfl ?_
                      refine W_M_shift_104 C ?_ fu _ _
                      intro ν20
                      refine R_iconst C d_M_shift_138 (v := 0) (by decide +kernel) ?_
                      refine R_istore C (lv' := [(6, .int 0), (0, .ref (q.2.2.1 0)), (3, .int a3), (4, .int a4), (5, .int a5)]) d_M_shift_139 (by decide) rfl ?_
                      refine R_sub [0, 1, 2, 3, 4] rfl ?_
                      refine W_M_shift_141 C ?_ fu _ _
                      intro ν28
                      refine R_iload C 0 d_M_shift_176 rfl ?_
                      exact R_iret C rfl d_M_shift_178
                    · skip
                      refine R_bipush C d_M_shift_98 (v := (-13)) (by decide +kernel) ?_
                      exact R_iret C rfl d_M_shift_100
          · skip
            refine R_bipush C d_M_shift_54 (v := (-12)) (by decide +kernel) ?_
            exact R_iret C rfl d_M_shift_56
        · skip
          refine R_bipush C d_M_shift_36 (v := (-11)) (by decide +kernel) ?_
          exact R_iret C rfl d_M_shift_38
    · skip
      refine R_iconst C d_M_shift_16 (v := (-1)) (by decide +kernel) ?_
      exact R_iret C rfl d_M_shift_17
theorem c_M_shift {q : QT} (hg : GOk sdM q) {a1 : Int32} {a2 : Int32} {a3 : Int32} {a4 : Int32} {a5 : Int32} {μ : Mm} {ν : Ml} {o : Int32 × Ml} (ho : F_M_shift a1 a2 a3 a4 a5 μ ν = some o) : Ct sdM q y_M_shift prog_14_method_109_code 7 (some (FieldType.int)) 2 [.ref (q.2.2.1 0), .int a1, .int a2, .int a3, .int a4, .int a5] μ ν ((φIl μ) o).1 ((φIl μ) o).2.1 ((φIl μ) o).2.2 := Ct_of rfl hg (fun z C => w_M_shift C) (Nat.le_of_ble_eq_true rfl) ho
def F_M_taken (a1 : Int32) (a2 : Int32) (μ : Mm) : Option (Int32) := (F_M_in a2 0 6).bind fun v1 => (if v1 = 0 then some (-2) else (F_M_isPupil a1 μ).bind fun v3 => (if v3 = 0 then some (-11) else (rdI (μ 4) 6 a1).bind fun v5 => jn (α := Unit) (fun K8 => (if a2 = 0 then K8 () else (if v5 = a2 then K8 () else jn (α := Unit) (fun K7 => (if a2 = 1 then (if v5 = 4 then K8 () else K7 ()) else K7 ())) (fun (_ : Unit) => jn (α := Unit) (fun K6 => (if a2 = 2 then (if v5 = 5 then K8 () else K6 ()) else K6 ())) (fun (_ : Unit) => (if a2 = 3 then (if v5 = 6 then K8 () else some (-12)) else some (-12))))))) (fun (_ : Unit) => some v5)))
theorem d_M_taken_0 : decode prog_14_method_102_code 0 = .ok (.aload_n 0, 1) := by decide +kernel
theorem d_M_taken_1 : decode prog_14_method_102_code 1 = .ok (.iload_n 2, 1) := by decide +kernel
theorem d_M_taken_2 : decode prog_14_method_102_code 2 = .ok (.iconst 0, 1) := by decide +kernel
theorem d_M_taken_3 : decode prog_14_method_102_code 3 = .ok (.bipush 6, 2) := by decide +kernel
theorem d_M_taken_5 : decode prog_14_method_102_code 5 = .ok (.invokevirtual 225, 3) := by decide +kernel
theorem d_M_taken_14 : decode prog_14_method_102_code 14 = .ok (.aload_n 0, 1) := by decide +kernel
theorem d_M_taken_15 : decode prog_14_method_102_code 15 = .ok (.iload_n 1, 1) := by decide +kernel
theorem d_M_taken_16 : decode prog_14_method_102_code 16 = .ok (.invokevirtual 233, 3) := by decide +kernel
theorem d_M_taken_25 : decode prog_14_method_102_code 25 = .ok (.aload_n 0, 1) := by decide +kernel
theorem d_M_taken_29 : decode prog_14_method_102_code 29 = .ok (.iload_n 1, 1) := by decide +kernel
theorem d_M_taken_31 : decode prog_14_method_102_code 31 = .ok (.istore_n 3, 1) := by decide +kernel
theorem d_M_taken_32 : decode prog_14_method_102_code 32 = .ok (.iload_n 2, 1) := by decide +kernel
theorem d_M_taken_36 : decode prog_14_method_102_code 36 = .ok (.iload_n 3, 1) := by decide +kernel
theorem d_M_taken_37 : decode prog_14_method_102_code 37 = .ok (.iload_n 2, 1) := by decide +kernel
theorem d_M_taken_41 : decode prog_14_method_102_code 41 = .ok (.iload_n 2, 1) := by decide +kernel
theorem d_M_taken_42 : decode prog_14_method_102_code 42 = .ok (.iconst 1, 1) := by decide +kernel
theorem d_M_taken_46 : decode prog_14_method_102_code 46 = .ok (.iload_n 3, 1) := by decide +kernel
theorem d_M_taken_47 : decode prog_14_method_102_code 47 = .ok (.iconst 4, 1) := by decide +kernel
theorem d_M_taken_48 : decode prog_14_method_102_code 48 = .ok (.if_icmp .eq 24, 3) := by decide +kernel
theorem d_M_taken_43 : decode prog_14_method_102_code 43 = .ok (.if_icmp .ne 8, 3) := by decide +kernel
theorem d_M_taken_51 : decode prog_14_method_102_code 51 = .ok (.iload_n 2, 1) := by decide +kernel
theorem d_M_taken_52 : decode prog_14_method_102_code 52 = .ok (.iconst 2, 1) := by decide +kernel
theorem d_M_taken_56 : decode prog_14_method_102_code 56 = .ok (.iload_n 3, 1) := by decide +kernel
theorem d_M_taken_57 : decode prog_14_method_102_code 57 = .ok (.iconst 5, 1) := by decide +kernel
theorem d_M_taken_58 : decode prog_14_method_102_code 58 = .ok (.if_icmp .eq 14, 3) := by decide +kernel
theorem d_M_taken_53 : decode prog_14_method_102_code 53 = .ok (.if_icmp .ne 8, 3) := by decide +kernel
theorem d_M_taken_61 : decode prog_14_method_102_code 61 = .ok (.iload_n 2, 1) := by decide +kernel
theorem d_M_taken_62 : decode prog_14_method_102_code 62 = .ok (.iconst 3, 1) := by decide +kernel
theorem d_M_taken_76 : decode prog_14_method_102_code 76 = .ok (.bipush (-12), 2) := by decide +kernel
theorem d_M_taken_78 : decode prog_14_method_102_code 78 = .ok (.ireturn, 1) := by decide +kernel
theorem d_M_taken_66 : decode prog_14_method_102_code 66 = .ok (.iload_n 3, 1) := by decide +kernel
theorem d_M_taken_67 : decode prog_14_method_102_code 67 = .ok (.bipush 6, 2) := by decide +kernel
theorem d_M_taken_69 : decode prog_14_method_102_code 69 = .ok (.if_icmp .ne 7, 3) := by decide +kernel
theorem d_M_taken_63 : decode prog_14_method_102_code 63 = .ok (.if_icmp .ne 13, 3) := by decide +kernel
theorem d_M_taken_38 : decode prog_14_method_102_code 38 = .ok (.if_icmp .eq 34, 3) := by decide +kernel
theorem d_M_taken_33 : decode prog_14_method_102_code 33 = .ok (.ifCond .eq 39, 3) := by decide +kernel
theorem d_M_taken_72 : decode prog_14_method_102_code 72 = .ok (.iload_n 3, 1) := by decide +kernel
theorem d_M_taken_73 : decode prog_14_method_102_code 73 = .ok (.goto 5, 3) := by decide +kernel
theorem d_M_taken_26 : decode prog_14_method_102_code 26 = .ok (.getfield 22, 3) := by decide +kernel
theorem d_M_taken_22 : decode prog_14_method_102_code 22 = .ok (.bipush (-11), 2) := by decide +kernel
theorem d_M_taken_24 : decode prog_14_method_102_code 24 = .ok (.ireturn, 1) := by decide +kernel
theorem d_M_taken_19 : decode prog_14_method_102_code 19 = .ok (.ifCond .ne 6, 3) := by decide +kernel
theorem d_M_taken_11 : decode prog_14_method_102_code 11 = .ok (.bipush (-2), 2) := by decide +kernel
theorem d_M_taken_13 : decode prog_14_method_102_code 13 = .ok (.ireturn, 1) := by decide +kernel
theorem d_M_taken_8 : decode prog_14_method_102_code 8 = .ok (.ifCond .ne 6, 3) := by decide +kernel
theorem d_M_taken_30 : decode prog_14_method_102_code 30 = .ok (.iaload, 1) := by decide +kernel
set_option maxRecDepth 10000 in
set_option maxHeartbeats 4000000 in
theorem w_M_taken {q : QT} {z : ZT} {a1 : Int32} {a2 : Int32} {μ : Mm} {ν : Ml} (C : Ctx sdM q z prog_14_method_102_code "BesideTomModel" 4 2 (some (FieldType.int))) : R sdM q z 4 (φI μ ν) (F_M_taken a1 a2 μ) μ ν 0 [(0, .ref (q.2.2.1 0)), (1, .int a1), (2, .int a2)] [] := by
  unfold F_M_taken
  refine R_aload_n C 0 d_M_taken_0 rfl rfl ?_
  refine R_iload_n C 2 d_M_taken_1 rfl rfl ?_
  refine R_iconst C d_M_taken_2 (v := 0) (by decide +kernel) ?_
  refine R_bipush C d_M_taken_3 (v := 6) (by decide +kernel) ?_
  refine R_bind (fun v1 h2 => ?_)
  refine R_callV C mm_0 (mc_0 q _ _) rfl cf_M_in rfl ml_M_225 im_M_in sl_M_M_in_M_in (c_M_in (gk C) h2) (by decide) (by decide) rfl rfl (Nat.le_of_ble_eq_true rfl) d_M_taken_5 ?_
  refine R_if_ne C d_M_taken_8 (tgt := 14) (by decide) ?_ ?_
  · skip
    refine R_aload_n C 0 d_M_taken_14 rfl rfl ?_
    refine R_iload_n C 1 d_M_taken_15 rfl rfl ?_
    refine R_bind (fun v3 h4 => ?_)
    refine R_callV C mm_0 (mc_0 q _ _) rfl cf_M_isPupil rfl ml_M_233 im_M_isPupil sl_M_M_isPupil_M_isPupil (c_M_isPupil (gk C) h4) (by decide) (by decide) rfl rfl (Nat.le_of_ble_eq_true rfl) d_M_taken_16 ?_
    refine R_if_ne C d_M_taken_19 (tgt := 25) (by decide) ?_ ?_
    · skip
      refine R_aload_n C 0 d_M_taken_25 rfl rfl ?_
      refine gf_M_kind C fl_M_22 d_M_taken_26 ?_
      refine R_iload_n C 1 d_M_taken_29 rfl rfl ?_
      refine R_iald C mm_4 (mc_4 q _ _) d_M_taken_30 (fun v5 => ?_)
      refine R_istore_n C (lv' := [(3, .int v5), (0, .ref (q.2.2.1 0)), (1, .int a1), (2, .int a2)]) d_M_taken_31 rfl (by decide) rfl ?_
      refine R_iload_n C 3 d_M_taken_32 rfl rfl ?_
      refine R_jn (fun K8 => R sdM q z 4 (φI μ ν) (K8 ()) μ ν 72 [(3, .int v5)] []) ?_ (fun K8 hK8 => ?_)
      · skip
        refine R_iload_n C 0 d_M_taken_72 rfl rfl ?_
        refine R_goto C d_M_taken_73 (tgt := 78) (by decide) ?_
        exact R_iret C rfl d_M_taken_78
      · skip
        refine R_if_eq C d_M_taken_33 (tgt := 72) (by decide) ?_ ?_
        · skip
          exact R_sub [0] rfl (hK8)
        · skip
          refine R_iload_n C 0 d_M_taken_36 rfl rfl ?_
          refine R_iload_n C 3 d_M_taken_37 rfl rfl ?_
          refine R_icmp_eq C d_M_taken_38 (tgt := 72) (by decide) ?_ ?_
          · skip
            exact R_sub [0] rfl (hK8)
          · skip
            refine R_iload_n C 3 d_M_taken_41 rfl rfl ?_
            refine R_iconst C d_M_taken_42 (v := 1) (by decide +kernel) ?_
            refine R_jn (fun K7 => R sdM q z 4 (φI μ ν) (K7 ()) μ ν 51 [(2, .int a2), (3, .int v5)] []) ?_ (fun K7 hK7 => ?_)
            · skip
              refine R_iload_n C 0 d_M_taken_51 rfl rfl ?_
              refine R_iconst C d_M_taken_52 (v := 2) (by decide +kernel) ?_
              refine R_jn (fun K6 => R sdM q z 4 (φI μ ν) (K6 ()) μ ν 61 [(2, .int a2), (3, .int v5)] []) ?_ (fun K6 hK6 => ?_)
              · skip
                refine R_iload_n C 0 d_M_taken_61 rfl rfl ?_
                refine R_iconst C d_M_taken_62 (v := 3) (by decide +kernel) ?_
                refine R_icmp_ne C d_M_taken_63 (tgt := 76) (by decide) ?_ ?_
                · skip
                  refine R_bipush C d_M_taken_76 (v := (-12)) (by decide +kernel) ?_
                  exact R_iret C rfl d_M_taken_78
                · skip
                  refine R_iload_n C 1 d_M_taken_66 rfl rfl ?_
                  refine R_bipush C d_M_taken_67 (v := 6) (by decide +kernel) ?_
                  refine R_icmp_ne C d_M_taken_69 (tgt := 76) (by decide) ?_ ?_
                  · skip
                    refine R_bipush C d_M_taken_76 (v := (-12)) (by decide +kernel) ?_
                    exact R_iret C rfl d_M_taken_78
                  · skip
                    exact R_sub [1] rfl (hK8)
              · skip
                refine R_icmp_ne C d_M_taken_53 (tgt := 61) (by decide) ?_ ?_
                · skip
                  exact R_sub [0, 1] rfl (hK6)
                · skip
                  refine R_iload_n C 1 d_M_taken_56 rfl rfl ?_
                  refine R_iconst C d_M_taken_57 (v := 5) (by decide +kernel) ?_
                  refine R_icmp_eq C d_M_taken_58 (tgt := 72) (by decide) ?_ ?_
                  · skip
                    exact R_sub [1] rfl (hK8)
                  · skip
                    exact R_sub [0, 1] rfl (hK6)
            · skip
              refine R_icmp_ne C d_M_taken_43 (tgt := 51) (by decide) ?_ ?_
              · skip
                exact R_sub [3, 0] rfl (hK7)
              · skip
                refine R_iload_n C 0 d_M_taken_46 rfl rfl ?_
                refine R_iconst C d_M_taken_47 (v := 4) (by decide +kernel) ?_
                refine R_icmp_eq C d_M_taken_48 (tgt := 72) (by decide) ?_ ?_
                · skip
                  exact R_sub [0] rfl (hK8)
                · skip
                  exact R_sub [3, 0] rfl (hK7)
    · skip
      refine R_bipush C d_M_taken_22 (v := (-11)) (by decide +kernel) ?_
      exact R_iret C rfl d_M_taken_24
  · skip
    refine R_bipush C d_M_taken_11 (v := (-2)) (by decide +kernel) ?_
    exact R_iret C rfl d_M_taken_13
theorem c_M_taken {q : QT} (hg : GOk sdM q) {a1 : Int32} {a2 : Int32} {μ : Mm} {ν : Ml} {o : Int32} (ho : F_M_taken a1 a2 μ = some o) : Ct sdM q y_M_taken prog_14_method_102_code 4 (some (FieldType.int)) 2 [.ref (q.2.2.1 0), .int a1, .int a2] μ ν ((φI μ ν) o).1 ((φI μ ν) o).2.1 ((φI μ ν) o).2.2 := Ct_of rfl hg (fun z C => w_M_taken C) (Nat.le_of_ble_eq_true rfl) ho
def L_M_takesNumber_16 (k : Mm → Option (Int32 × Mm)) : Nat → Int32 → Mm → Option (Int32 × Mm)
  | 0, _, _ => none
  | n + 1, s4, μ5 => (if 2 ≤ s4 then k μ5 else (F_M_isDigit μ5).bind fun v6 => (if v6 = 0 then k μ5 else (F_M_next μ5).bind fun v8 => lt_ (up2 μ5 0 13 (((10 * (μ5 0 13)) + v8) - 48)) fun μ10 => lt_ (up2 μ10 0 12 ((μ10 0 12) + 1)) fun μ11 => L_M_takesNumber_16 k n (s4 + 1) μ11))
def F_M_takesNumber (μ : Mm) : Option (Int32 × Mm) := (F_M_isDigit μ).bind fun v1 => (if v1 = 0 then some (0, μ) else lt_ (up2 μ 0 13 0) fun μ3 => L_M_takesNumber_16 (fun (μ12 : Mm) => some (1, μ12)) fu 0 μ3)
theorem d_M_takesNumber_0 : decode prog_14_method_26_code 0 = .ok (.aload_n 0, 1) := by decide +kernel
theorem d_M_takesNumber_1 : decode prog_14_method_26_code 1 = .ok (.invokevirtual 261, 3) := by decide +kernel
theorem d_M_takesNumber_9 : decode prog_14_method_26_code 9 = .ok (.aload_n 0, 1) := by decide +kernel
theorem d_M_takesNumber_10 : decode prog_14_method_26_code 10 = .ok (.iconst 0, 1) := by decide +kernel
theorem d_M_takesNumber_14 : decode prog_14_method_26_code 14 = .ok (.iconst 0, 1) := by decide +kernel
theorem d_M_takesNumber_15 : decode prog_14_method_26_code 15 = .ok (.istore_n 1, 1) := by decide +kernel
theorem d_M_takesNumber_16 : decode prog_14_method_26_code 16 = .ok (.iload_n 1, 1) := by decide +kernel
theorem d_M_takesNumber_17 : decode prog_14_method_26_code 17 = .ok (.iconst 2, 1) := by decide +kernel
theorem d_M_takesNumber_21 : decode prog_14_method_26_code 21 = .ok (.aload_n 0, 1) := by decide +kernel
theorem d_M_takesNumber_22 : decode prog_14_method_26_code 22 = .ok (.invokevirtual 261, 3) := by decide +kernel
theorem d_M_takesNumber_28 : decode prog_14_method_26_code 28 = .ok (.aload_n 0, 1) := by decide +kernel
theorem d_M_takesNumber_29 : decode prog_14_method_26_code 29 = .ok (.bipush 10, 2) := by decide +kernel
theorem d_M_takesNumber_31 : decode prog_14_method_26_code 31 = .ok (.aload_n 0, 1) := by decide +kernel
theorem d_M_takesNumber_35 : decode prog_14_method_26_code 35 = .ok (.imul, 1) := by decide +kernel
theorem d_M_takesNumber_36 : decode prog_14_method_26_code 36 = .ok (.aload_n 0, 1) := by decide +kernel
theorem d_M_takesNumber_37 : decode prog_14_method_26_code 37 = .ok (.invokevirtual 255, 3) := by decide +kernel
theorem d_M_takesNumber_40 : decode prog_14_method_26_code 40 = .ok (.iadd, 1) := by decide +kernel
theorem d_M_takesNumber_41 : decode prog_14_method_26_code 41 = .ok (.bipush 48, 2) := by decide +kernel
theorem d_M_takesNumber_43 : decode prog_14_method_26_code 43 = .ok (.isub, 1) := by decide +kernel
theorem d_M_takesNumber_47 : decode prog_14_method_26_code 47 = .ok (.aload_n 0, 1) := by decide +kernel
theorem d_M_takesNumber_48 : decode prog_14_method_26_code 48 = .ok (.dup, 1) := by decide +kernel
theorem d_M_takesNumber_52 : decode prog_14_method_26_code 52 = .ok (.iconst 1, 1) := by decide +kernel
theorem d_M_takesNumber_53 : decode prog_14_method_26_code 53 = .ok (.iadd, 1) := by decide +kernel
theorem d_M_takesNumber_57 : decode prog_14_method_26_code 57 = .ok (.iinc 1 1, 3) := by decide +kernel
theorem d_M_takesNumber_60 : decode prog_14_method_26_code 60 = .ok (.goto (-44), 3) := by decide +kernel
theorem d_M_takesNumber_49 : decode prog_14_method_26_code 49 = .ok (.getfield 47, 3) := by decide +kernel
theorem d_M_takesNumber_32 : decode prog_14_method_26_code 32 = .ok (.getfield 50, 3) := by decide +kernel
theorem d_M_takesNumber_25 : decode prog_14_method_26_code 25 = .ok (.ifCond .eq 38, 3) := by decide +kernel
theorem d_M_takesNumber_18 : decode prog_14_method_26_code 18 = .ok (.if_icmp .ge 45, 3) := by decide +kernel
theorem d_M_takesNumber_44 : decode prog_14_method_26_code 44 = .ok (.putfield 50, 3) := by decide +kernel
theorem d_M_takesNumber_54 : decode prog_14_method_26_code 54 = .ok (.putfield 47, 3) := by decide +kernel
set_option maxRecDepth 10000 in
set_option maxHeartbeats 4000000 in
theorem W_M_takesNumber_16 {q : QT} {z : ZT} {ν : Ml} {k : Mm → Option (Int32 × Mm)} (C : Ctx sdM q z prog_14_method_26_code "BesideTomModel" 2 2 (some (FieldType.boolean))) (hk : ∀ (me_ : Mm), R sdM q z 2 (φIm ν) (k me_) me_ ν 63 [] []) : ∀ (n : Nat) (s4 : Int32) (μ5 : Mm), R sdM q z 2 (φIm ν) (L_M_takesNumber_16 k n s4 μ5) μ5 ν 16 [(1, .int s4), (0, .ref (q.2.2.1 0))] [] := by
  intro n
  induction n with
  | zero =>
    intros
    exact R_none
  | succ n ih =>
    intro s4 μ5
    rw [L_M_takesNumber_16]
    refine R_iload_n C 0 d_M_takesNumber_16 rfl rfl ?_
    refine R_iconst C d_M_takesNumber_17 (v := 2) (by decide +kernel) ?_
    refine R_icmp_ge C d_M_takesNumber_18 (tgt := 63) (by decide) ?_ ?_
    · skip
      exact R_sub [] rfl (hk μ5)
    · skip
      refine R_aload_n C 1 d_M_takesNumber_21 rfl rfl ?_
      refine R_bind (fun v6 h7 => ?_)
      refine R_callV C mm_0 (mc_0 q _ _) rfl cf_M_isDigit rfl ml_M_261 im_M_isDigit sl_M_M_isDigit_M_isDigit (c_M_isDigit (gk C) h7) (by decide) (by decide) rfl rfl (Nat.le_of_ble_eq_true rfl) d_M_takesNumber_22 ?_
      refine R_if_eq C d_M_takesNumber_25 (tgt := 63) (by decide) ?_ ?_
      · skip
        exact R_sub [] rfl (hk μ5)
      · skip
        refine R_aload_n C 1 d_M_takesNumber_28 rfl rfl ?_
        refine R_bipush C d_M_takesNumber_29 (v := 10) (by decide +kernel) ?_
        refine R_aload_n C 1 d_M_takesNumber_31 rfl rfl ?_
        refine gf_M_digits C fl_M_50 d_M_takesNumber_32 ?_
        refine R_imul C d_M_takesNumber_35 ?_
        refine R_aload_n C 1 d_M_takesNumber_36 rfl rfl ?_
        refine R_bind (fun v8 h9 => ?_)
        refine R_callV C mm_0 (mc_0 q _ _) rfl cf_M_next rfl ml_M_255 im_M_next sl_M_M_next_M_next (c_M_next (gk C) h9) (by decide) (by decide) rfl rfl (Nat.le_of_ble_eq_true rfl) d_M_takesNumber_37 ?_
        refine R_iadd C d_M_takesNumber_40 ?_
        refine R_bipush C d_M_takesNumber_41 (v := 48) (by decide +kernel) ?_
        refine R_isub C d_M_takesNumber_43 ?_
        refine pf_M_digits C fl_M_50 d_M_takesNumber_44 (fun μ10 => ?_)
        refine R_aload_n C 1 d_M_takesNumber_47 rfl rfl ?_
        refine R_dup C d_M_takesNumber_48 rfl ?_
        refine gf_M_at C fl_M_47 d_M_takesNumber_49 ?_
        refine R_iconst C d_M_takesNumber_52 (v := 1) (by decide +kernel) ?_
        refine R_iadd C d_M_takesNumber_53 ?_
        refine pf_M_at C fl_M_47 d_M_takesNumber_54 (fun μ11 => ?_)
        refine R_iinc C 0 d_M_takesNumber_57 rfl (iinc_v _ (v := 1) (by decide +kernel)) (lv' := [(1, .int (s4 + 1)), (0, .ref (q.2.2.1 0))]) (by decide) rfl ?_
        refine R_goto C d_M_takesNumber_60 (tgt := 16) (by decide) ?_
        exact R_sub [0, 1] rfl (ih (s4 + 1) μ11)
theorem d_M_takesNumber_63 : decode prog_14_method_26_code 63 = .ok (.iconst 1, 1) := by decide +kernel
theorem d_M_takesNumber_64 : decode prog_14_method_26_code 64 = .ok (.ireturn, 1) := by decide +kernel
theorem d_M_takesNumber_7 : decode prog_14_method_26_code 7 = .ok (.iconst 0, 1) := by decide +kernel
theorem d_M_takesNumber_8 : decode prog_14_method_26_code 8 = .ok (.ireturn, 1) := by decide +kernel
theorem d_M_takesNumber_4 : decode prog_14_method_26_code 4 = .ok (.ifCond .ne 5, 3) := by decide +kernel
theorem d_M_takesNumber_11 : decode prog_14_method_26_code 11 = .ok (.putfield 50, 3) := by decide +kernel
set_option maxRecDepth 10000 in
set_option maxHeartbeats 4000000 in
theorem w_M_takesNumber {q : QT} {z : ZT} {μ : Mm} {ν : Ml} (C : Ctx sdM q z prog_14_method_26_code "BesideTomModel" 2 2 (some (FieldType.boolean))) : R sdM q z 2 (φIm ν) (F_M_takesNumber μ) μ ν 0 [(0, .ref (q.2.2.1 0))] [] := by
  unfold F_M_takesNumber
  refine R_aload_n C 0 d_M_takesNumber_0 rfl rfl ?_
  refine R_bind (fun v1 h2 => ?_)
  refine R_callV C mm_0 (mc_0 q _ _) rfl cf_M_isDigit rfl ml_M_261 im_M_isDigit sl_M_M_isDigit_M_isDigit (c_M_isDigit (gk C) h2) (by decide) (by decide) rfl rfl (Nat.le_of_ble_eq_true rfl) d_M_takesNumber_1 ?_
  refine R_if_ne C d_M_takesNumber_4 (tgt := 9) (by decide) ?_ ?_
  · skip
    refine R_aload_n C 0 d_M_takesNumber_9 rfl rfl ?_
    refine R_iconst C d_M_takesNumber_10 (v := 0) (by decide +kernel) ?_
    refine pf_M_digits C fl_M_50 d_M_takesNumber_11 (fun μ3 => ?_)
    refine R_iconst C d_M_takesNumber_14 (v := 0) (by decide +kernel) ?_
    refine R_istore_n C (lv' := [(1, .int 0), (0, .ref (q.2.2.1 0))]) d_M_takesNumber_15 rfl (by decide) rfl ?_
    refine R_sub [0, 1] rfl ?_
    refine W_M_takesNumber_16 C ?_ fu _ _
    intro μ12
    refine R_iconst C d_M_takesNumber_63 (v := 1) (by decide +kernel) ?_
    exact R_zret C (by decide) rfl d_M_takesNumber_64
  · skip
    refine R_iconst C d_M_takesNumber_7 (v := 0) (by decide +kernel) ?_
    exact R_zret C (by decide) rfl d_M_takesNumber_8
theorem c_M_takesNumber {q : QT} (hg : GOk sdM q) {μ : Mm} {ν : Ml} {o : Int32 × Mm} (ho : F_M_takesNumber μ = some o) : Ct sdM q y_M_takesNumber prog_14_method_26_code 2 (some (FieldType.boolean)) 2 [.ref (q.2.2.1 0)] μ ν ((φIm ν) o).1 ((φIm ν) o).2.1 ((φIm ν) o).2.2 := Ct_of rfl hg (fun z C => w_M_takesNumber C) (Nat.le_of_ble_eq_true rfl) ho
def L_M_takesWord_2 (f2 : Int32) (f3 : Int32) (k : Mm → Option (Int32 × Mm)) : Nat → Int32 → Mm → Option (Int32 × Mm)
  | 0, _, _ => none
  | n + 1, s1, μ4 => (if f3 ≤ s1 then k μ4 else (rdI (μ4 25) 16 (f2 + s1)).bind fun v5 => (F_M_takes v5 μ4).bind fun p_ => match p_ with | (v6, μ7) => (if v6 = 0 then some (0, μ7) else L_M_takesWord_2 f2 f3 k n (s1 + 1) μ7))
def F_M_takesWord (a1 : Int32) (a2 : Int32) (μ : Mm) : Option (Int32 × Mm) := L_M_takesWord_2 a1 a2 (fun (μ9 : Mm) => (F_M_takes 32 μ9).bind fun p_ => match p_ with | (v10, μ11) => (rZ v10).bind fun r_ => some (r_, μ11)) fu 0 μ
theorem d_M_takesWord_0 : decode prog_14_method_24_code 0 = .ok (.iconst 0, 1) := by decide +kernel
theorem d_M_takesWord_1 : decode prog_14_method_24_code 1 = .ok (.istore_n 3, 1) := by decide +kernel
theorem d_M_takesWord_2 : decode prog_14_method_24_code 2 = .ok (.iload_n 3, 1) := by decide +kernel
theorem d_M_takesWord_3 : decode prog_14_method_24_code 3 = .ok (.iload_n 2, 1) := by decide +kernel
theorem d_M_takesWord_7 : decode prog_14_method_24_code 7 = .ok (.aload_n 0, 1) := by decide +kernel
theorem d_M_takesWord_8 : decode prog_14_method_24_code 8 = .ok (.aload_n 0, 1) := by decide +kernel
theorem d_M_takesWord_12 : decode prog_14_method_24_code 12 = .ok (.iload_n 1, 1) := by decide +kernel
theorem d_M_takesWord_13 : decode prog_14_method_24_code 13 = .ok (.iload_n 3, 1) := by decide +kernel
theorem d_M_takesWord_14 : decode prog_14_method_24_code 14 = .ok (.iadd, 1) := by decide +kernel
theorem d_M_takesWord_16 : decode prog_14_method_24_code 16 = .ok (.invokevirtual 258, 3) := by decide +kernel
theorem d_M_takesWord_24 : decode prog_14_method_24_code 24 = .ok (.iinc 3 1, 3) := by decide +kernel
theorem d_M_takesWord_27 : decode prog_14_method_24_code 27 = .ok (.goto (-25), 3) := by decide +kernel
theorem d_M_takesWord_22 : decode prog_14_method_24_code 22 = .ok (.iconst 0, 1) := by decide +kernel
theorem d_M_takesWord_23 : decode prog_14_method_24_code 23 = .ok (.ireturn, 1) := by decide +kernel
theorem d_M_takesWord_19 : decode prog_14_method_24_code 19 = .ok (.ifCond .ne 5, 3) := by decide +kernel
theorem d_M_takesWord_9 : decode prog_14_method_24_code 9 = .ok (.getfield 86, 3) := by decide +kernel
theorem d_M_takesWord_4 : decode prog_14_method_24_code 4 = .ok (.if_icmp .ge 26, 3) := by decide +kernel
theorem d_M_takesWord_15 : decode prog_14_method_24_code 15 = .ok (.iaload, 1) := by decide +kernel
set_option maxRecDepth 10000 in
set_option maxHeartbeats 4000000 in
theorem W_M_takesWord_2 {q : QT} {z : ZT} {ν : Ml} {f2 : Int32} {f3 : Int32} {k : Mm → Option (Int32 × Mm)} (C : Ctx sdM q z prog_14_method_24_code "BesideTomModel" 4 2 (some (FieldType.boolean))) (hk : ∀ (me_ : Mm), R sdM q z 4 (φIm ν) (k me_) me_ ν 30 [(0, .ref (q.2.2.1 0))] []) : ∀ (n : Nat) (s1 : Int32) (μ4 : Mm), R sdM q z 4 (φIm ν) (L_M_takesWord_2 f2 f3 k n s1 μ4) μ4 ν 2 [(3, .int s1), (0, .ref (q.2.2.1 0)), (1, .int f2), (2, .int f3)] [] := by
  intro n
  induction n with
  | zero =>
    intros
    exact R_none
  | succ n ih =>
    intro s1 μ4
    rw [L_M_takesWord_2]
    refine R_iload_n C 0 d_M_takesWord_2 rfl rfl ?_
    refine R_iload_n C 3 d_M_takesWord_3 rfl rfl ?_
    refine R_icmp_ge C d_M_takesWord_4 (tgt := 30) (by decide) ?_ ?_
    · skip
      exact R_sub [1] rfl (hk μ4)
    · skip
      refine R_aload_n C 1 d_M_takesWord_7 rfl rfl ?_
      refine R_aload_n C 1 d_M_takesWord_8 rfl rfl ?_
      refine gf_M_letters C fl_M_86 d_M_takesWord_9 ?_
      refine R_iload_n C 2 d_M_takesWord_12 rfl rfl ?_
      refine R_iload_n C 0 d_M_takesWord_13 rfl rfl ?_
      refine R_iadd C d_M_takesWord_14 ?_
      refine R_iald C mm_25 (mc_25 q _ _) d_M_takesWord_15 (fun v5 => ?_)
      refine R_bind (fun r_ h8 => ?_)
      obtain ⟨v6, μ7⟩ := r_
      refine R_callV C mm_0 (mc_0 q _ _) rfl cf_M_takes rfl ml_M_258 im_M_takes sl_M_M_takes_M_takes (c_M_takes (gk C) h8) (by decide) (by decide) rfl rfl (Nat.le_of_ble_eq_true rfl) d_M_takesWord_16 ?_
      refine R_if_ne C d_M_takesWord_19 (tgt := 24) (by decide) ?_ ?_
      · skip
        refine R_iinc C 0 d_M_takesWord_24 rfl (iinc_v _ (v := 1) (by decide +kernel)) (lv' := [(3, .int (s1 + 1)), (0, .ref (q.2.2.1 0)), (1, .int f2), (2, .int f3)]) (by decide) rfl ?_
        refine R_goto C d_M_takesWord_27 (tgt := 2) (by decide) ?_
        exact R_sub [0, 1, 2, 3] rfl (ih (s1 + 1) μ7)
      · skip
        refine R_iconst C d_M_takesWord_22 (v := 0) (by decide +kernel) ?_
        exact R_zret C (by decide) rfl d_M_takesWord_23
theorem d_M_takesWord_30 : decode prog_14_method_24_code 30 = .ok (.aload_n 0, 1) := by decide +kernel
theorem d_M_takesWord_31 : decode prog_14_method_24_code 31 = .ok (.bipush 32, 2) := by decide +kernel
theorem d_M_takesWord_33 : decode prog_14_method_24_code 33 = .ok (.invokevirtual 258, 3) := by decide +kernel
theorem d_M_takesWord_36 : decode prog_14_method_24_code 36 = .ok (.ireturn, 1) := by decide +kernel
set_option maxRecDepth 10000 in
set_option maxHeartbeats 4000000 in
theorem w_M_takesWord {q : QT} {z : ZT} {a1 : Int32} {a2 : Int32} {μ : Mm} {ν : Ml} (C : Ctx sdM q z prog_14_method_24_code "BesideTomModel" 4 2 (some (FieldType.boolean))) : R sdM q z 4 (φIm ν) (F_M_takesWord a1 a2 μ) μ ν 0 [(0, .ref (q.2.2.1 0)), (1, .int a1), (2, .int a2)] [] := by
  unfold F_M_takesWord
  refine R_iconst C d_M_takesWord_0 (v := 0) (by decide +kernel) ?_
  refine R_istore_n C (lv' := [(3, .int 0), (0, .ref (q.2.2.1 0)), (1, .int a1), (2, .int a2)]) d_M_takesWord_1 rfl (by decide) rfl ?_
  refine R_sub [0, 1, 2, 3] rfl ?_
  refine W_M_takesWord_2 C ?_ fu _ _
  intro μ9
  refine R_aload_n C 0 d_M_takesWord_30 rfl rfl ?_
  refine R_bipush C d_M_takesWord_31 (v := 32) (by decide +kernel) ?_
  refine R_bind (fun r_ h12 => ?_)
  obtain ⟨v10, μ11⟩ := r_
  refine R_callV C mm_0 (mc_0 q _ _) rfl cf_M_takes rfl ml_M_258 im_M_takes sl_M_M_takes_M_takes (c_M_takes (gk C) h12) (by decide) (by decide) rfl rfl (Nat.le_of_ble_eq_true rfl) d_M_takesWord_33 ?_
  exact R_zretG C (fun a => ⟨_, rfl, rfl⟩) d_M_takesWord_36
theorem c_M_takesWord {q : QT} (hg : GOk sdM q) {a1 : Int32} {a2 : Int32} {μ : Mm} {ν : Ml} {o : Int32 × Mm} (ho : F_M_takesWord a1 a2 μ = some o) : Ct sdM q y_M_takesWord prog_14_method_24_code 4 (some (FieldType.boolean)) 2 [.ref (q.2.2.1 0), .int a1, .int a2] μ ν ((φIm ν) o).1 ((φIm ν) o).2.1 ((φIm ν) o).2.2 := Ct_of rfl hg (fun z C => w_M_takesWord C) (Nat.le_of_ble_eq_true rfl) ho
def L_M_tape_69 (f9 : Int32) (μ : Mm) (k : Ml → Option (Int32 × Mm × Ml)) : Nat → Int32 → Ml → Option (Int32 × Mm × Ml)
  | 0, _, _ => none
  | n + 1, s8, ν10 => (if 60 ≤ s8 then k ν10 else (wrL ν10 67 360 ((60 * f9) + s8) 0).bind fun ν11 => L_M_tape_69 f9 μ k n (s8 + 1) ν11)
def F_M_tape (a1 : Int32) (a2 : Int32) (a3 : Int32) (μ : Mm) (ν : Ml) : Option (Int32 × Mm × Ml) := (F_M_isTape a1).bind fun v1 => (if v1 = 0 then some ((-1), μ, ν) else (F_M_in a2 (-1) 4).bind fun v3 => (if v3 = 0 then some ((-2), μ, ν) else jn (α := Unit) (fun K15 => (if a2 < 0 then K15 () else (if a3 ≤ 60 then K15 () else some ((-2), μ, ν)))) (fun (_ : Unit) => jn (α := Unit) (fun K14 => (if a2 < 0 then K14 () else (if 0 ≤ a3 then K14 () else some ((-14), μ, ν)))) (fun (_ : Unit) => (wrI μ 65 6 a1 a2).bind fun μ5 => jn (α := Int32) (fun K13 => (if 0 ≤ a2 then K13 a3 else K13 0)) (fun (j6 : Int32) => (wrI μ5 66 6 a1 j6).bind fun μ7 => L_M_tape_69 a1 μ7 (fun (ν12 : Ml) => some (1, μ7, ν12)) fu 0 ν)))))
theorem d_M_tape_0 : decode prog_14_method_105_code 0 = .ok (.aload_n 0, 1) := by decide +kernel
theorem d_M_tape_1 : decode prog_14_method_105_code 1 = .ok (.iload_n 1, 1) := by decide +kernel
theorem d_M_tape_2 : decode prog_14_method_105_code 2 = .ok (.invokevirtual 420, 3) := by decide +kernel
theorem d_M_tape_10 : decode prog_14_method_105_code 10 = .ok (.aload_n 0, 1) := by decide +kernel
theorem d_M_tape_11 : decode prog_14_method_105_code 11 = .ok (.iload_n 2, 1) := by decide +kernel
theorem d_M_tape_12 : decode prog_14_method_105_code 12 = .ok (.iconst (-1), 1) := by decide +kernel
theorem d_M_tape_13 : decode prog_14_method_105_code 13 = .ok (.iconst 4, 1) := by decide +kernel
theorem d_M_tape_14 : decode prog_14_method_105_code 14 = .ok (.invokevirtual 225, 3) := by decide +kernel
theorem d_M_tape_30 : decode prog_14_method_105_code 30 = .ok (.bipush (-2), 2) := by decide +kernel
theorem d_M_tape_32 : decode prog_14_method_105_code 32 = .ok (.ireturn, 1) := by decide +kernel
theorem d_M_tape_20 : decode prog_14_method_105_code 20 = .ok (.iload_n 2, 1) := by decide +kernel
theorem d_M_tape_24 : decode prog_14_method_105_code 24 = .ok (.iload_n 3, 1) := by decide +kernel
theorem d_M_tape_25 : decode prog_14_method_105_code 25 = .ok (.bipush 60, 2) := by decide +kernel
theorem d_M_tape_27 : decode prog_14_method_105_code 27 = .ok (.if_icmp .le 6, 3) := by decide +kernel
theorem d_M_tape_21 : decode prog_14_method_105_code 21 = .ok (.ifCond .lt 12, 3) := by decide +kernel
theorem d_M_tape_33 : decode prog_14_method_105_code 33 = .ok (.iload_n 2, 1) := by decide +kernel
theorem d_M_tape_37 : decode prog_14_method_105_code 37 = .ok (.iload_n 3, 1) := by decide +kernel
theorem d_M_tape_41 : decode prog_14_method_105_code 41 = .ok (.bipush (-14), 2) := by decide +kernel
theorem d_M_tape_43 : decode prog_14_method_105_code 43 = .ok (.ireturn, 1) := by decide +kernel
theorem d_M_tape_38 : decode prog_14_method_105_code 38 = .ok (.ifCond .ge 6, 3) := by decide +kernel
theorem d_M_tape_34 : decode prog_14_method_105_code 34 = .ok (.ifCond .lt 10, 3) := by decide +kernel
theorem d_M_tape_44 : decode prog_14_method_105_code 44 = .ok (.aload_n 0, 1) := by decide +kernel
theorem d_M_tape_48 : decode prog_14_method_105_code 48 = .ok (.iload_n 1, 1) := by decide +kernel
theorem d_M_tape_49 : decode prog_14_method_105_code 49 = .ok (.iload_n 2, 1) := by decide +kernel
theorem d_M_tape_51 : decode prog_14_method_105_code 51 = .ok (.aload_n 0, 1) := by decide +kernel
theorem d_M_tape_55 : decode prog_14_method_105_code 55 = .ok (.iload_n 1, 1) := by decide +kernel
theorem d_M_tape_56 : decode prog_14_method_105_code 56 = .ok (.iload_n 2, 1) := by decide +kernel
theorem d_M_tape_64 : decode prog_14_method_105_code 64 = .ok (.iload_n 3, 1) := by decide +kernel
theorem d_M_tape_60 : decode prog_14_method_105_code 60 = .ok (.iconst 0, 1) := by decide +kernel
theorem d_M_tape_61 : decode prog_14_method_105_code 61 = .ok (.goto 4, 3) := by decide +kernel
theorem d_M_tape_57 : decode prog_14_method_105_code 57 = .ok (.ifCond .ge 7, 3) := by decide +kernel
theorem d_M_tape_66 : decode prog_14_method_105_code 66 = .ok (.iconst 0, 1) := by decide +kernel
theorem d_M_tape_67 : decode prog_14_method_105_code 67 = .ok (.istore 4, 2) := by decide +kernel
theorem d_M_tape_69 : decode prog_14_method_105_code 69 = .ok (.iload 4, 2) := by decide +kernel
theorem d_M_tape_71 : decode prog_14_method_105_code 71 = .ok (.bipush 60, 2) := by decide +kernel
theorem d_M_tape_76 : decode prog_14_method_105_code 76 = .ok (.aload_n 0, 1) := by decide +kernel
theorem d_M_tape_80 : decode prog_14_method_105_code 80 = .ok (.bipush 60, 2) := by decide +kernel
theorem d_M_tape_82 : decode prog_14_method_105_code 82 = .ok (.iload_n 1, 1) := by decide +kernel
theorem d_M_tape_83 : decode prog_14_method_105_code 83 = .ok (.imul, 1) := by decide +kernel
theorem d_M_tape_84 : decode prog_14_method_105_code 84 = .ok (.iload 4, 2) := by decide +kernel
theorem d_M_tape_86 : decode prog_14_method_105_code 86 = .ok (.iadd, 1) := by decide +kernel
theorem d_M_tape_87 : decode prog_14_method_105_code 87 = .ok (.lconst 0, 1) := by decide +kernel
theorem d_M_tape_89 : decode prog_14_method_105_code 89 = .ok (.iinc 4 1, 3) := by decide +kernel
theorem d_M_tape_92 : decode prog_14_method_105_code 92 = .ok (.goto (-23), 3) := by decide +kernel
theorem d_M_tape_88 : decode prog_14_method_105_code 88 = .ok (.lastore, 1) := by decide +kernel
theorem d_M_tape_77 : decode prog_14_method_105_code 77 = .ok (.getfield 214, 3) := by decide +kernel
theorem d_M_tape_73 : decode prog_14_method_105_code 73 = .ok (.if_icmp .ge 22, 3) := by decide +kernel
set_option maxRecDepth 10000 in
set_option maxHeartbeats 4000000 in
theorem W_M_tape_69 {q : QT} {z : ZT} {μ : Mm} {f9 : Int32} {k : Ml → Option (Int32 × Mm × Ml)} (C : Ctx sdM q z prog_14_method_105_code "BesideTomModel" 5 2 (some (FieldType.int))) (hk : ∀ (ne_ : Ml), R sdM q z 5 φIml (k ne_) μ ne_ 95 [] []) : ∀ (n : Nat) (s8 : Int32) (ν10 : Ml), R sdM q z 5 φIml (L_M_tape_69 f9 μ k n s8 ν10) μ ν10 69 [(4, .int s8), (0, .ref (q.2.2.1 0)), (1, .int f9)] [] := by
  intro n
  induction n with
  | zero =>
    intros
    exact R_none
  | succ n ih =>
    intro s8 ν10
    rw [L_M_tape_69]
    refine R_iload C 0 d_M_tape_69 rfl ?_
    refine R_bipush C d_M_tape_71 (v := 60) (by decide +kernel) ?_
    refine R_icmp_ge C d_M_tape_73 (tgt := 95) (by decide) ?_ ?_
    · skip
      exact R_sub [] rfl (hk ν10)
    · skip
      refine R_aload_n C 1 d_M_tape_76 rfl rfl ?_
      refine gf_M_item C fl_M_214 d_M_tape_77 ?_
      refine R_bipush C d_M_tape_80 (v := 60) (by decide +kernel) ?_
      refine R_iload_n C 2 d_M_tape_82 rfl rfl ?_
      refine R_imul C d_M_tape_83 ?_
      refine R_iload C 0 d_M_tape_84 rfl ?_
      refine R_iadd C d_M_tape_86 ?_
      refine R_lconst C d_M_tape_87 (v := 0) (by decide +kernel) ?_
      refine R_last C mm_67 (fun h => mc_67 q _ h) d_M_tape_88 (fun ν11 => ?_)
      refine R_iinc C 0 d_M_tape_89 rfl (iinc_v _ (v := 1) (by decide +kernel)) (lv' := [(4, .int (s8 + 1)), (0, .ref (q.2.2.1 0)), (1, .int f9)]) (by decide) rfl ?_
      refine R_goto C d_M_tape_92 (tgt := 69) (by decide) ?_
      exact R_sub [0, 1, 2] rfl (ih (s8 + 1) ν11)
theorem d_M_tape_95 : decode prog_14_method_105_code 95 = .ok (.iconst 1, 1) := by decide +kernel
theorem d_M_tape_96 : decode prog_14_method_105_code 96 = .ok (.ireturn, 1) := by decide +kernel
theorem d_M_tape_65 : decode prog_14_method_105_code 65 = .ok (.iastore, 1) := by decide +kernel
theorem d_M_tape_52 : decode prog_14_method_105_code 52 = .ok (.getfield 211, 3) := by decide +kernel
theorem d_M_tape_50 : decode prog_14_method_105_code 50 = .ok (.iastore, 1) := by decide +kernel
theorem d_M_tape_45 : decode prog_14_method_105_code 45 = .ok (.getfield 208, 3) := by decide +kernel
theorem d_M_tape_17 : decode prog_14_method_105_code 17 = .ok (.ifCond .eq 13, 3) := by decide +kernel
theorem d_M_tape_8 : decode prog_14_method_105_code 8 = .ok (.iconst (-1), 1) := by decide +kernel
theorem d_M_tape_9 : decode prog_14_method_105_code 9 = .ok (.ireturn, 1) := by decide +kernel
theorem d_M_tape_5 : decode prog_14_method_105_code 5 = .ok (.ifCond .ne 5, 3) := by decide +kernel
set_option maxRecDepth 10000 in
set_option maxHeartbeats 4000000 in
theorem w_M_tape {q : QT} {z : ZT} {a1 : Int32} {a2 : Int32} {a3 : Int32} {μ : Mm} {ν : Ml} (C : Ctx sdM q z prog_14_method_105_code "BesideTomModel" 5 2 (some (FieldType.int))) : R sdM q z 5 φIml (F_M_tape a1 a2 a3 μ ν) μ ν 0 [(0, .ref (q.2.2.1 0)), (1, .int a1), (2, .int a2), (3, .int a3)] [] := by
  unfold F_M_tape
  refine R_aload_n C 0 d_M_tape_0 rfl rfl ?_
  refine R_iload_n C 1 d_M_tape_1 rfl rfl ?_
  refine R_bind (fun v1 h2 => ?_)
  refine R_callV C mm_0 (mc_0 q _ _) rfl cf_M_isTape rfl ml_M_420 im_M_isTape sl_M_M_isTape_M_isTape (c_M_isTape (gk C) h2) (by decide) (by decide) rfl rfl (Nat.le_of_ble_eq_true rfl) d_M_tape_2 ?_
  refine R_if_ne C d_M_tape_5 (tgt := 10) (by decide) ?_ ?_
  · skip
    refine R_aload_n C 0 d_M_tape_10 rfl rfl ?_
    refine R_iload_n C 2 d_M_tape_11 rfl rfl ?_
    refine R_iconst C d_M_tape_12 (v := (-1)) (by decide +kernel) ?_
    refine R_iconst C d_M_tape_13 (v := 4) (by decide +kernel) ?_
    refine R_bind (fun v3 h4 => ?_)
    refine R_callV C mm_0 (mc_0 q _ _) rfl cf_M_in rfl ml_M_225 im_M_in sl_M_M_in_M_in (c_M_in (gk C) h4) (by decide) (by decide) rfl rfl (Nat.le_of_ble_eq_true rfl) d_M_tape_14 ?_
    refine R_if_eq C d_M_tape_17 (tgt := 30) (by decide) ?_ ?_
    · skip
      refine R_bipush C d_M_tape_30 (v := (-2)) (by decide +kernel) ?_
      exact R_iret C rfl d_M_tape_32
    · skip
      refine R_iload_n C 2 d_M_tape_20 rfl rfl ?_
      refine R_jn (fun K15 => R sdM q z 5 φIml (K15 ()) μ ν 33 [(0, .ref (q.2.2.1 0)), (1, .int a1), (2, .int a2), (3, .int a3)] []) ?_ (fun K15 hK15 => ?_)
      · skip
        refine R_iload_n C 2 d_M_tape_33 rfl rfl ?_
        refine R_jn (fun K14 => R sdM q z 5 φIml (K14 ()) μ ν 44 [(0, .ref (q.2.2.1 0)), (1, .int a1), (2, .int a2), (3, .int a3)] []) ?_ (fun K14 hK14 => ?_)
        · skip
          refine R_aload_n C 0 d_M_tape_44 rfl rfl ?_
          refine gf_M_sort C fl_M_208 d_M_tape_45 ?_
          refine R_iload_n C 1 d_M_tape_48 rfl rfl ?_
          refine R_iload_n C 2 d_M_tape_49 rfl rfl ?_
          refine R_iast C mm_65 (fun h => mc_65 q h _) d_M_tape_50 (fun μ5 => ?_)
          refine R_aload_n C 0 d_M_tape_51 rfl rfl ?_
          refine gf_M_length C fl_M_211 d_M_tape_52 ?_
          refine R_iload_n C 1 d_M_tape_55 rfl rfl ?_
          refine R_iload_n C 2 d_M_tape_56 rfl rfl ?_
          refine R_jn (fun K13 => ∀ (j6 : Int32), R sdM q z 5 φIml (K13 j6) μ5 ν 65 [(0, .ref (q.2.2.1 0)), (1, .int a1)] [.int j6, .int a1, .ref (q.2.2.1 66)]) ?_ (fun K13 hK13 => ?_)
          · intro j6
            refine R_iast C mm_66 (fun h => mc_66 q h _) d_M_tape_65 (fun μ7 => ?_)
            refine R_iconst C d_M_tape_66 (v := 0) (by decide +kernel) ?_
            refine R_istore C (lv' := [(4, .int 0), (0, .ref (q.2.2.1 0)), (1, .int a1)]) d_M_tape_67 (by decide) rfl ?_
            refine R_sub [0, 1, 2] rfl ?_
            refine W_M_tape_69 C ?_ fu _ _
            intro ν12
            refine R_iconst C d_M_tape_95 (v := 1) (by decide +kernel) ?_
            exact R_iret C rfl d_M_tape_96
          · skip
            refine R_if_ge C d_M_tape_57 (tgt := 64) (by decide) ?_ ?_
            · skip
              refine R_iload_n C 3 d_M_tape_64 rfl rfl ?_
              exact R_sub [0, 1] rfl (hK13 a3)
            · skip
              refine R_iconst C d_M_tape_60 (v := 0) (by decide +kernel) ?_
              refine R_goto C d_M_tape_61 (tgt := 65) (by decide) ?_
              exact R_sub [0, 1] rfl (hK13 0)
        · skip
          refine R_if_lt C d_M_tape_34 (tgt := 44) (by decide) ?_ ?_
          · skip
            exact R_sub [0, 1, 2, 3] rfl (hK14)
          · skip
            refine R_iload_n C 3 d_M_tape_37 rfl rfl ?_
            refine R_if_ge C d_M_tape_38 (tgt := 44) (by decide) ?_ ?_
            · skip
              exact R_sub [0, 1, 2, 3] rfl (hK14)
            · skip
              refine R_bipush C d_M_tape_41 (v := (-14)) (by decide +kernel) ?_
              exact R_iret C rfl d_M_tape_43
      · skip
        refine R_if_lt C d_M_tape_21 (tgt := 33) (by decide) ?_ ?_
        · skip
          exact R_sub [0, 1, 2, 3] rfl (hK15)
        · skip
          refine R_iload_n C 3 d_M_tape_24 rfl rfl ?_
          refine R_bipush C d_M_tape_25 (v := 60) (by decide +kernel) ?_
          refine R_icmp_le C d_M_tape_27 (tgt := 33) (by decide) ?_ ?_
          · skip
            exact R_sub [0, 1, 2, 3] rfl (hK15)
          · skip
            refine R_bipush C d_M_tape_30 (v := (-2)) (by decide +kernel) ?_
            exact R_iret C rfl d_M_tape_32
  · skip
    refine R_iconst C d_M_tape_8 (v := (-1)) (by decide +kernel) ?_
    exact R_iret C rfl d_M_tape_9
theorem c_M_tape {q : QT} (hg : GOk sdM q) {a1 : Int32} {a2 : Int32} {a3 : Int32} {μ : Mm} {ν : Ml} {o : Int32 × Mm × Ml} (ho : F_M_tape a1 a2 a3 μ ν = some o) : Ct sdM q y_M_tape prog_14_method_105_code 5 (some (FieldType.int)) 2 [.ref (q.2.2.1 0), .int a1, .int a2, .int a3] μ ν (φIml o).1 (φIml o).2.1 (φIml o).2.2 := Ct_of rfl hg (fun z C => w_M_tape C) (Nat.le_of_ble_eq_true rfl) ho
