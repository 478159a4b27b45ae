def F_M_term (a1 : Int32) (a2 : Int32) (μ : Mm) : Option (Int32 × Mm) := (if a1 = (-1) then lt_ (up2 μ 0 37 0) fun μ16 => some (0, μ16) else (F_M_in a1 0 3).bind fun v1 => (if v1 = 0 then some ((-1), μ) else (F_M_in a1 1 2).bind fun v3 => jn (α := Unit) (fun K15 => (if v3 = 0 then K15 () else (F_M_isPupil a2 μ).bind fun v5 => (if v5 = 0 then some ((-1), μ) else K15 ()))) (fun (_ : Unit) => jn (α := Unit) (fun K14 => (if a1 = 3 then (if (μ 0 0) = 0 then some ((-1), μ) else (F_M_isDesk a2).bind fun v7 => (if v7 = 0 then some ((-1), μ) else K14 ())) else K14 ())) (fun (_ : Unit) => (if (μ 0 37) = 10 then some ((-4), μ) else (wrI μ 39 10 (μ 0 37) a1).bind fun μ9 => jn (α := Int32) (fun K13 => (if a1 ≤ 0 then K13 0 else K13 a2)) (fun (j10 : Int32) => (wrI μ9 40 10 (μ9 0 37) j10).bind fun μ11 => lt_ (up2 μ11 0 37 ((μ11 0 37) + 1)) fun μ12 => some ((μ12 0 37), μ12)))))))
theorem d_M_term_0 : decode prog_14_method_85_code 0 = .ok (.iload_n 1, 1) := by decide +kernel
theorem d_M_term_1 : decode prog_14_method_85_code 1 = .ok (.iconst (-1), 1) := by decide +kernel
theorem d_M_term_12 : decode prog_14_method_85_code 12 = .ok (.aload_n 0, 1) := by decide +kernel
theorem d_M_term_13 : decode prog_14_method_85_code 13 = .ok (.iload_n 1, 1) := by decide +kernel
theorem d_M_term_14 : decode prog_14_method_85_code 14 = .ok (.iconst 0, 1) := by decide +kernel
theorem d_M_term_15 : decode prog_14_method_85_code 15 = .ok (.iconst 3, 1) := by decide +kernel
theorem d_M_term_16 : decode prog_14_method_85_code 16 = .ok (.invokevirtual 225, 3) := by decide +kernel
theorem d_M_term_60 : decode prog_14_method_85_code 60 = .ok (.iconst (-1), 1) := by decide +kernel
theorem d_M_term_61 : decode prog_14_method_85_code 61 = .ok (.ireturn, 1) := by decide +kernel
theorem d_M_term_22 : decode prog_14_method_85_code 22 = .ok (.aload_n 0, 1) := by decide +kernel
theorem d_M_term_23 : decode prog_14_method_85_code 23 = .ok (.iload_n 1, 1) := by decide +kernel
theorem d_M_term_24 : decode prog_14_method_85_code 24 = .ok (.iconst 1, 1) := by decide +kernel
theorem d_M_term_25 : decode prog_14_method_85_code 25 = .ok (.iconst 2, 1) := by decide +kernel
theorem d_M_term_26 : decode prog_14_method_85_code 26 = .ok (.invokevirtual 225, 3) := by decide +kernel
theorem d_M_term_32 : decode prog_14_method_85_code 32 = .ok (.aload_n 0, 1) := by decide +kernel
theorem d_M_term_33 : decode prog_14_method_85_code 33 = .ok (.iload_n 2, 1) := by decide +kernel
theorem d_M_term_34 : decode prog_14_method_85_code 34 = .ok (.invokevirtual 233, 3) := by decide +kernel
theorem d_M_term_37 : decode prog_14_method_85_code 37 = .ok (.ifCond .eq 23, 3) := by decide +kernel
theorem d_M_term_29 : decode prog_14_method_85_code 29 = .ok (.ifCond .eq 11, 3) := by decide +kernel
theorem d_M_term_40 : decode prog_14_method_85_code 40 = .ok (.iload_n 1, 1) := by decide +kernel
theorem d_M_term_41 : decode prog_14_method_85_code 41 = .ok (.iconst 3, 1) := by decide +kernel
theorem d_M_term_45 : decode prog_14_method_85_code 45 = .ok (.aload_n 0, 1) := by decide +kernel
theorem d_M_term_52 : decode prog_14_method_85_code 52 = .ok (.aload_n 0, 1) := by decide +kernel
theorem d_M_term_53 : decode prog_14_method_85_code 53 = .ok (.iload_n 2, 1) := by decide +kernel
theorem d_M_term_54 : decode prog_14_method_85_code 54 = .ok (.invokevirtual 245, 3) := by decide +kernel
theorem d_M_term_57 : decode prog_14_method_85_code 57 = .ok (.ifCond .ne 5, 3) := by decide +kernel
theorem d_M_term_49 : decode prog_14_method_85_code 49 = .ok (.ifCond .eq 11, 3) := by decide +kernel
theorem d_M_term_46 : decode prog_14_method_85_code 46 = .ok (.getfield 7, 3) := by decide +kernel
theorem d_M_term_42 : decode prog_14_method_85_code 42 = .ok (.if_icmp .ne 20, 3) := by decide +kernel
theorem d_M_term_62 : decode prog_14_method_85_code 62 = .ok (.aload_n 0, 1) := by decide +kernel
theorem d_M_term_66 : decode prog_14_method_85_code 66 = .ok (.bipush 10, 2) := by decide +kernel
theorem d_M_term_74 : decode prog_14_method_85_code 74 = .ok (.aload_n 0, 1) := by decide +kernel
theorem d_M_term_78 : decode prog_14_method_85_code 78 = .ok (.aload_n 0, 1) := by decide +kernel
theorem d_M_term_82 : decode prog_14_method_85_code 82 = .ok (.iload_n 1, 1) := by decide +kernel
theorem d_M_term_84 : decode prog_14_method_85_code 84 = .ok (.aload_n 0, 1) := by decide +kernel
theorem d_M_term_88 : decode prog_14_method_85_code 88 = .ok (.aload_n 0, 1) := by decide +kernel
theorem d_M_term_92 : decode prog_14_method_85_code 92 = .ok (.iload_n 1, 1) := by decide +kernel
theorem d_M_term_100 : decode prog_14_method_85_code 100 = .ok (.iconst 0, 1) := by decide +kernel
theorem d_M_term_96 : decode prog_14_method_85_code 96 = .ok (.iload_n 2, 1) := by decide +kernel
theorem d_M_term_97 : decode prog_14_method_85_code 97 = .ok (.goto 4, 3) := by decide +kernel
theorem d_M_term_93 : decode prog_14_method_85_code 93 = .ok (.ifCond .le 7, 3) := by decide +kernel
theorem d_M_term_102 : decode prog_14_method_85_code 102 = .ok (.aload_n 0, 1) := by decide +kernel
theorem d_M_term_103 : decode prog_14_method_85_code 103 = .ok (.dup, 1) := by decide +kernel
theorem d_M_term_107 : decode prog_14_method_85_code 107 = .ok (.iconst 1, 1) := by decide +kernel
theorem d_M_term_108 : decode prog_14_method_85_code 108 = .ok (.iadd, 1) := by decide +kernel
theorem d_M_term_112 : decode prog_14_method_85_code 112 = .ok (.aload_n 0, 1) := by decide +kernel
theorem d_M_term_116 : decode prog_14_method_85_code 116 = .ok (.ireturn, 1) := by decide +kernel
theorem d_M_term_113 : decode prog_14_method_85_code 113 = .ok (.getfield 123, 3) := by decide +kernel
theorem d_M_term_104 : decode prog_14_method_85_code 104 = .ok (.getfield 123, 3) := by decide +kernel
theorem d_M_term_101 : decode prog_14_method_85_code 101 = .ok (.iastore, 1) := by decide +kernel
theorem d_M_term_89 : decode prog_14_method_85_code 89 = .ok (.getfield 123, 3) := by decide +kernel
theorem d_M_term_85 : decode prog_14_method_85_code 85 = .ok (.getfield 132, 3) := by decide +kernel
theorem d_M_term_83 : decode prog_14_method_85_code 83 = .ok (.iastore, 1) := by decide +kernel
theorem d_M_term_79 : decode prog_14_method_85_code 79 = .ok (.getfield 123, 3) := by decide +kernel
theorem d_M_term_75 : decode prog_14_method_85_code 75 = .ok (.getfield 129, 3) := by decide +kernel
theorem d_M_term_71 : decode prog_14_method_85_code 71 = .ok (.bipush (-4), 2) := by decide +kernel
theorem d_M_term_73 : decode prog_14_method_85_code 73 = .ok (.ireturn, 1) := by decide +kernel
theorem d_M_term_68 : decode prog_14_method_85_code 68 = .ok (.if_icmp .ne 6, 3) := by decide +kernel
theorem d_M_term_63 : decode prog_14_method_85_code 63 = .ok (.getfield 123, 3) := by decide +kernel
theorem d_M_term_19 : decode prog_14_method_85_code 19 = .ok (.ifCond .eq 41, 3) := by decide +kernel
theorem d_M_term_5 : decode prog_14_method_85_code 5 = .ok (.aload_n 0, 1) := by decide +kernel
theorem d_M_term_6 : decode prog_14_method_85_code 6 = .ok (.iconst 0, 1) := by decide +kernel
theorem d_M_term_10 : decode prog_14_method_85_code 10 = .ok (.iconst 0, 1) := by decide +kernel
theorem d_M_term_11 : decode prog_14_method_85_code 11 = .ok (.ireturn, 1) := by decide +kernel
theorem d_M_term_2 : decode prog_14_method_85_code 2 = .ok (.if_icmp .ne 10, 3) := by decide +kernel
theorem d_M_term_109 : decode prog_14_method_85_code 109 = .ok (.putfield 123, 3) := by decide +kernel
theorem d_M_term_7 : decode prog_14_method_85_code 7 = .ok (.putfield 123, 3) := by decide +kernel
set_option maxRecDepth 10000 in
set_option maxHeartbeats 4000000 in
theorem w_M_term {q : QT} {z : ZT} {a1 : Int32} {a2 : Int32} {μ : Mm} {ν : Ml} (C : Ctx sdM q z prog_14_method_85_code "BesideTomModel" 3 2 (some (FieldType.int))) : R sdM q z 3 (φIm ν) (F_M_term a1 a2 μ) μ ν 0 [(0, .ref (q.2.2.1 0)), (1, .int a1), (2, .int a2)] [] := by
  unfold F_M_term
  refine R_iload_n C 1 d_M_term_0 rfl rfl ?_
  refine R_iconst C d_M_term_1 (v := (-1)) (by decide +kernel) ?_
  refine R_icmp_ne C d_M_term_2 (tgt := 12) (by decide) ?_ ?_
  · skip
    refine R_aload_n C 0 d_M_term_12 rfl rfl ?_
    refine R_iload_n C 1 d_M_term_13 rfl rfl ?_
    refine R_iconst C d_M_term_14 (v := 0) (by decide +kernel) ?_
    refine R_iconst C d_M_term_15 (v := 3) (by decide +kernel) ?_
    refine R_bind (fun v1 h2 => ?_)
    refine R_callV C mm_0 (mc_0 q _ _) rfl cf_M_in rfl ml_M_225 im_M_in sl_M_M_in_M_in (c_M_in (gk C) h2) (by decide) (by decide) rfl rfl (Nat.le_of_ble_eq_true rfl) d_M_term_16 ?_
    refine R_if_eq C d_M_term_19 (tgt := 60) (by decide) ?_ ?_
    · skip
      refine R_iconst C d_M_term_60 (v := (-1)) (by decide +kernel) ?_
      exact R_iret C rfl d_M_term_61
    · skip
      refine R_aload_n C 0 d_M_term_22 rfl rfl ?_
      refine R_iload_n C 1 d_M_term_23 rfl rfl ?_
      refine R_iconst C d_M_term_24 (v := 1) (by decide +kernel) ?_
      refine R_iconst C d_M_term_25 (v := 2) (by decide +kernel) ?_
      refine R_bind (fun v3 h4 => ?_)
      refine R_callV C mm_0 (mc_0 q _ _) rfl cf_M_in rfl ml_M_225 im_M_in sl_M_M_in_M_in (c_M_in (gk C) h4) (by decide) (by decide) rfl rfl (Nat.le_of_ble_eq_true rfl) d_M_term_26 ?_
      refine R_jn (fun K15 => R sdM q z 3 (φIm ν) (K15 ()) μ ν 40 [(0, .ref (q.2.2.1 0)), (1, .int a1), (2, .int a2)] []) ?_ (fun K15 hK15 => ?_)
      · skip
        refine R_iload_n C 1 d_M_term_40 rfl rfl ?_
        refine R_iconst C d_M_term_41 (v := 3) (by decide +kernel) ?_
        refine R_jn (fun K14 => R sdM q z 3 (φIm ν) (K14 ()) μ ν 62 [(0, .ref (q.2.2.1 0)), (1, .int a1), (2, .int a2)] []) ?_ (fun K14 hK14 => ?_)
        · skip
          refine R_aload_n C 0 d_M_term_62 rfl rfl ?_
          refine gf_M_terms C fl_M_123 d_M_term_63 ?_
          refine R_bipush C d_M_term_66 (v := 10) (by decide +kernel) ?_
          refine R_icmp_ne C d_M_term_68 (tgt := 74) (by decide) ?_ ?_
          · skip
            refine R_aload_n C 0 d_M_term_74 rfl rfl ?_
            refine gf_M_termWhat C fl_M_129 d_M_term_75 ?_
            refine R_aload_n C 0 d_M_term_78 rfl rfl ?_
            refine gf_M_terms C fl_M_123 d_M_term_79 ?_
            refine R_iload_n C 1 d_M_term_82 rfl rfl ?_
            refine R_iast C mm_39 (fun h => mc_39 q h _) d_M_term_83 (fun μ9 => ?_)
            refine R_aload_n C 0 d_M_term_84 rfl rfl ?_
            refine gf_M_termNumber C fl_M_132 d_M_term_85 ?_
            refine R_aload_n C 0 d_M_term_88 rfl rfl ?_
            refine gf_M_terms C fl_M_123 d_M_term_89 ?_
            refine R_iload_n C 1 d_M_term_92 rfl rfl ?_
            refine R_jn (fun K13 => ∀ (j10 : Int32), R sdM q z 3 (φIm ν) (K13 j10) μ9 ν 101 [(0, .ref (q.2.2.1 0))] [.int j10, .int (μ9 0 37), .ref (q.2.2.1 40)]) ?_ (fun K13 hK13 => ?_)
            · intro j10
              refine R_iast C mm_40 (fun h => mc_40 q h _) d_M_term_101 (fun μ11 => ?_)
              refine R_aload_n C 0 d_M_term_102 rfl rfl ?_
              refine R_dup C d_M_term_103 rfl ?_
              refine gf_M_terms C fl_M_123 d_M_term_104 ?_
              refine R_iconst C d_M_term_107 (v := 1) (by decide +kernel) ?_
              refine R_iadd C d_M_term_108 ?_
              refine pf_M_terms C fl_M_123 d_M_term_109 (fun μ12 => ?_)
              refine R_aload_n C 0 d_M_term_112 rfl rfl ?_
              refine gf_M_terms C fl_M_123 d_M_term_113 ?_
              exact R_iret C rfl d_M_term_116
            · skip
              refine R_if_le C d_M_term_93 (tgt := 100) (by decide) ?_ ?_
              · skip
                refine R_iconst C d_M_term_100 (v := 0) (by decide +kernel) ?_
                exact R_sub [0] rfl (hK13 0)
              · skip
                refine R_iload_n C 2 d_M_term_96 rfl rfl ?_
                refine R_goto C d_M_term_97 (tgt := 101) (by decide) ?_
                exact R_sub [0] rfl (hK13 a2)
          · skip
            refine R_bipush C d_M_term_71 (v := (-4)) (by decide +kernel) ?_
            exact R_iret C rfl d_M_term_73
        · skip
          refine R_icmp_ne C d_M_term_42 (tgt := 62) (by decide) ?_ ?_
          · skip
            exact R_sub [0, 1, 2] rfl (hK14)
          · skip
            refine R_aload_n C 0 d_M_term_45 rfl rfl ?_
            refine gf_M_pupils C fl_M_7 d_M_term_46 ?_
            refine R_if_eq C d_M_term_49 (tgt := 60) (by decide) ?_ ?_
            · skip
              refine R_iconst C d_M_term_60 (v := (-1)) (by decide +kernel) ?_
              exact R_iret C rfl d_M_term_61
            · skip
              refine R_aload_n C 0 d_M_term_52 rfl rfl ?_
              refine R_iload_n C 2 d_M_term_53 rfl rfl ?_
              refine R_bind (fun v7 h8 => ?_)
              refine R_callV C mm_0 (mc_0 q _ _) rfl cf_M_isDesk rfl ml_M_245 im_M_isDesk sl_M_M_isDesk_M_isDesk (c_M_isDesk (gk C) h8) (by decide) (by decide) rfl rfl (Nat.le_of_ble_eq_true rfl) d_M_term_54 ?_
              refine R_if_ne C d_M_term_57 (tgt := 62) (by decide) ?_ ?_
              · skip
                exact R_sub [0, 1, 2] rfl (hK14)
              · skip
                refine R_iconst C d_M_term_60 (v := (-1)) (by decide +kernel) ?_
                exact R_iret C rfl d_M_term_61
      · skip
        refine R_if_eq C d_M_term_29 (tgt := 40) (by decide) ?_ ?_
        · skip
          exact R_sub [0, 1, 2] rfl (hK15)
        · skip
          refine R_aload_n C 0 d_M_term_32 rfl rfl ?_
          refine R_iload_n C 2 d_M_term_33 rfl rfl ?_
          refine R_bind (fun v5 h6 => ?_)
          refine R_callV C mm_0 (mc_0 q _ _) rfl cf_M_isPupil rfl ml_M_233 im_M_isPupil sl_M_M_isPupil_M_isPupil (c_M_isPupil (gk C) h6) (by decide) (by decide) rfl rfl (Nat.le_of_ble_eq_true rfl) d_M_term_34 ?_
          refine R_if_eq C d_M_term_37 (tgt := 60) (by decide) ?_ ?_
          · skip
            refine R_iconst C d_M_term_60 (v := (-1)) (by decide +kernel) ?_
            exact R_iret C rfl d_M_term_61
          · skip
            exact R_sub [0, 1, 2] rfl (hK15)
  · skip
    refine R_aload_n C 0 d_M_term_5 rfl rfl ?_
    refine R_iconst C d_M_term_6 (v := 0) (by decide +kernel) ?_
    refine pf_M_terms C fl_M_123 d_M_term_7 (fun μ16 => ?_)
    refine R_iconst C d_M_term_10 (v := 0) (by decide +kernel) ?_
    exact R_iret C rfl d_M_term_11
theorem c_M_term {q : QT} (hg : GOk sdM q) {a1 : Int32} {a2 : Int32} {μ : Mm} {ν : Ml} {o : Int32 × Mm} (ho : F_M_term a1 a2 μ = some o) : Ct sdM q y_M_term prog_14_method_85_code 3 (some (FieldType.int)) 2 [.ref (q.2.2.1 0), .int a1, .int a2] μ ν ((φIm ν) o).1 ((φIm ν) o).2.1 ((φIm ν) o).2.2 := Ct_of rfl hg (fun z C => w_M_term C) (Nat.le_of_ble_eq_true rfl) ho
def F_M_wears (μ : Mm) : Option (Int32) := (F_M_lastOf 2 3 μ).bind fun v1 => some v1
theorem d_M_wears_0 : decode prog_14_method_40_code 0 = .ok (.aload_n 0, 1) := by decide +kernel
theorem d_M_wears_1 : decode prog_14_method_40_code 1 = .ok (.iconst 2, 1) := by decide +kernel
theorem d_M_wears_2 : decode prog_14_method_40_code 2 = .ok (.iconst 3, 1) := by decide +kernel
theorem d_M_wears_3 : decode prog_14_method_40_code 3 = .ok (.invokevirtual 308, 3) := by decide +kernel
theorem d_M_wears_6 : decode prog_14_method_40_code 6 = .ok (.ireturn, 1) := by decide +kernel
set_option maxRecDepth 10000 in
set_option maxHeartbeats 4000000 in
theorem w_M_wears {q : QT} {z : ZT} {μ : Mm} {ν : Ml} (C : Ctx sdM q z prog_14_method_40_code "BesideTomModel" 1 2 (some (FieldType.int))) : R sdM q z 1 (φI μ ν) (F_M_wears μ) μ ν 0 [(0, .ref (q.2.2.1 0))] [] := by
  unfold F_M_wears
  refine R_aload_n C 0 d_M_wears_0 rfl rfl ?_
  refine R_iconst C d_M_wears_1 (v := 2) (by decide +kernel) ?_
  refine R_iconst C d_M_wears_2 (v := 3) (by decide +kernel) ?_
  refine R_bind (fun v1 h2 => ?_)
  refine R_callV C mm_0 (mc_0 q _ _) rfl cf_M_lastOf rfl ml_M_308 im_M_lastOf sl_M_M_lastOf_M_lastOf (c_M_lastOf (gk C) h2) (by decide) (by decide) rfl rfl (Nat.le_of_ble_eq_true rfl) d_M_wears_3 ?_
  exact R_iret C rfl d_M_wears_6
theorem c_M_wears {q : QT} (hg : GOk sdM q) {μ : Mm} {ν : Ml} {o : Int32} (ho : F_M_wears μ = some o) : Ct sdM q y_M_wears prog_14_method_40_code 1 (some (FieldType.int)) 2 [.ref (q.2.2.1 0)] μ ν ((φI μ ν) o).1 ((φI μ ν) o).2.1 ((φI μ ν) o).2.2 := Ct_of rfl hg (fun z C => w_M_wears C) (Nat.le_of_ble_eq_true rfl) ho
def F_M_whispersAct (a1 : Int32) (a2 : Int32) (μ : Mm) : Option (Int32 × Mm) := (rdI (μ 4) 6 a1).bind fun v1 => (if v1 = 2 then (F_M_body 30 μ).bind fun μ2 => (F_M_pupilWhispers a1 (a2 * 3) μ2).bind fun p_ => match p_ with | (v4, μ5) => some (v4, μ5) else if v1 = 3 then (F_M_pupilWhispers a1 a2 μ).bind fun p_ => match p_ with | (v7, μ8) => some (v7, μ8) else if v1 = 4 then (F_M_body 50 μ).bind fun μ10 => (F_M_pupilWhispers a1 a2 μ10).bind fun p_ => match p_ with | (v12, μ13) => some ((-v12), μ13) else if v1 = 5 then (F_M_body 30 μ).bind fun μ15 => (F_M_pupilWhispers a1 (a2 * 3) μ15).bind fun p_ => match p_ with | (v17, μ18) => some (v17, μ18) else if v1 = 6 then (F_M_body 71 μ).bind fun μ20 => (F_M_pupilWhispers a1 a2 μ20).bind fun p_ => match p_ with | (v22, μ23) => (rdI (μ23 5) 6 a1).bind fun v25 => some ((v22 ^^^ v25), μ23) else (F_M_pupilWhispers a1 a2 μ).bind fun p_ => match p_ with | (v26, μ27) => some (v26, μ27))
theorem d_M_whispersAct_0 : decode prog_14_method_94_code 0 = .ok (.aload_n 0, 1) := by decide +kernel
theorem d_M_whispersAct_4 : decode prog_14_method_94_code 4 = .ok (.iload_n 1, 1) := by decide +kernel
theorem d_M_whispersAct_6 : decode prog_14_method_94_code 6 = .ok (.tableswitch 83 2 6 #[34, 83, 49, 34, 63], 34) := by decide +kernel
theorem d_M_whispersAct_40 : decode prog_14_method_94_code 40 = .ok (.aload_n 0, 1) := by decide +kernel
theorem d_M_whispersAct_41 : decode prog_14_method_94_code 41 = .ok (.bipush 30, 2) := by decide +kernel
theorem d_M_whispersAct_43 : decode prog_14_method_94_code 43 = .ok (.invokevirtual 423, 3) := by decide +kernel
theorem d_M_whispersAct_46 : decode prog_14_method_94_code 46 = .ok (.aload_n 0, 1) := by decide +kernel
theorem d_M_whispersAct_47 : decode prog_14_method_94_code 47 = .ok (.iload_n 1, 1) := by decide +kernel
theorem d_M_whispersAct_48 : decode prog_14_method_94_code 48 = .ok (.iload_n 2, 1) := by decide +kernel
theorem d_M_whispersAct_49 : decode prog_14_method_94_code 49 = .ok (.iconst 3, 1) := by decide +kernel
theorem d_M_whispersAct_50 : decode prog_14_method_94_code 50 = .ok (.imul, 1) := by decide +kernel
theorem d_M_whispersAct_51 : decode prog_14_method_94_code 51 = .ok (.invokevirtual 426, 3) := by decide +kernel
theorem d_M_whispersAct_54 : decode prog_14_method_94_code 54 = .ok (.ireturn, 1) := by decide +kernel
theorem d_M_whispersAct_89 : decode prog_14_method_94_code 89 = .ok (.aload_n 0, 1) := by decide +kernel
theorem d_M_whispersAct_90 : decode prog_14_method_94_code 90 = .ok (.iload_n 1, 1) := by decide +kernel
theorem d_M_whispersAct_91 : decode prog_14_method_94_code 91 = .ok (.iload_n 2, 1) := by decide +kernel
theorem d_M_whispersAct_92 : decode prog_14_method_94_code 92 = .ok (.invokevirtual 426, 3) := by decide +kernel
theorem d_M_whispersAct_95 : decode prog_14_method_94_code 95 = .ok (.ireturn, 1) := by decide +kernel
theorem d_M_whispersAct_55 : decode prog_14_method_94_code 55 = .ok (.aload_n 0, 1) := by decide +kernel
theorem d_M_whispersAct_56 : decode prog_14_method_94_code 56 = .ok (.bipush 50, 2) := by decide +kernel
theorem d_M_whispersAct_58 : decode prog_14_method_94_code 58 = .ok (.invokevirtual 423, 3) := by decide +kernel
theorem d_M_whispersAct_61 : decode prog_14_method_94_code 61 = .ok (.aload_n 0, 1) := by decide +kernel
theorem d_M_whispersAct_62 : decode prog_14_method_94_code 62 = .ok (.iload_n 1, 1) := by decide +kernel
theorem d_M_whispersAct_63 : decode prog_14_method_94_code 63 = .ok (.iload_n 2, 1) := by decide +kernel
theorem d_M_whispersAct_64 : decode prog_14_method_94_code 64 = .ok (.invokevirtual 426, 3) := by decide +kernel
theorem d_M_whispersAct_67 : decode prog_14_method_94_code 67 = .ok (.ineg, 1) := by decide +kernel
theorem d_M_whispersAct_68 : decode prog_14_method_94_code 68 = .ok (.ireturn, 1) := by decide +kernel
theorem d_M_whispersAct_69 : decode prog_14_method_94_code 69 = .ok (.aload_n 0, 1) := by decide +kernel
theorem d_M_whispersAct_70 : decode prog_14_method_94_code 70 = .ok (.bipush 71, 2) := by decide +kernel
theorem d_M_whispersAct_72 : decode prog_14_method_94_code 72 = .ok (.invokevirtual 423, 3) := by decide +kernel
theorem d_M_whispersAct_75 : decode prog_14_method_94_code 75 = .ok (.aload_n 0, 1) := by decide +kernel
theorem d_M_whispersAct_76 : decode prog_14_method_94_code 76 = .ok (.iload_n 1, 1) := by decide +kernel
theorem d_M_whispersAct_77 : decode prog_14_method_94_code 77 = .ok (.iload_n 2, 1) := by decide +kernel
theorem d_M_whispersAct_78 : decode prog_14_method_94_code 78 = .ok (.invokevirtual 426, 3) := by decide +kernel
theorem d_M_whispersAct_81 : decode prog_14_method_94_code 81 = .ok (.aload_n 0, 1) := by decide +kernel
theorem d_M_whispersAct_85 : decode prog_14_method_94_code 85 = .ok (.iload_n 1, 1) := by decide +kernel
theorem d_M_whispersAct_87 : decode prog_14_method_94_code 87 = .ok (.ixor, 1) := by decide +kernel
theorem d_M_whispersAct_88 : decode prog_14_method_94_code 88 = .ok (.ireturn, 1) := by decide +kernel
theorem d_M_whispersAct_82 : decode prog_14_method_94_code 82 = .ok (.getfield 26, 3) := by decide +kernel
theorem d_M_whispersAct_1 : decode prog_14_method_94_code 1 = .ok (.getfield 22, 3) := by decide +kernel
theorem d_M_whispersAct_5 : decode prog_14_method_94_code 5 = .ok (.iaload, 1) := by decide +kernel
theorem d_M_whispersAct_86 : decode prog_14_method_94_code 86 = .ok (.iaload, 1) := by decide +kernel
set_option maxRecDepth 10000 in
set_option maxHeartbeats 4000000 in
theorem w_M_whispersAct {q : QT} {z : ZT} {a1 : Int32} {a2 : Int32} {μ : Mm} {ν : Ml} (C : Ctx sdM q z prog_14_method_94_code "BesideTomModel" 3 2 (some (FieldType.int))) : R sdM q z 3 (φIm ν) (F_M_whispersAct a1 a2 μ) μ ν 0 [(0, .ref (q.2.2.1 0)), (1, .int a1), (2, .int a2)] [] := by
  unfold F_M_whispersAct
  refine R_aload_n C 0 d_M_whispersAct_0 rfl rfl ?_
  refine gf_M_kind C fl_M_22 d_M_whispersAct_1 ?_
  refine R_iload_n C 1 d_M_whispersAct_4 rfl rfl ?_
  refine R_iald C mm_4 (mc_4 q _ _) d_M_whispersAct_5 (fun v1 => ?_)
  refine R_ite (fun e29 => ?_) (fun e29 => ?_)
  · refine R_tsw C e29 d_M_whispersAct_6 (tgt := 40) (by decide +kernel) (by decide +kernel) rfl (by decide) ?_
    refine R_aload_n C 0 d_M_whispersAct_40 rfl rfl ?_
    refine R_bipush C d_M_whispersAct_41 (v := 30) (by decide +kernel) ?_
    refine R_bind (fun μ2 h3 => ?_)
    refine R_callV C mm_0 (mc_0 q _ _) rfl cf_M_body rfl ml_M_423 im_M_body sl_M_M_body_M_body (c_M_body (gk C) h3) (by decide) (by decide) rfl rfl (Nat.le_of_ble_eq_true rfl) d_M_whispersAct_43 ?_
    refine R_aload_n C 0 d_M_whispersAct_46 rfl rfl ?_
    refine R_iload_n C 1 d_M_whispersAct_47 rfl rfl ?_
    refine R_iload_n C 2 d_M_whispersAct_48 rfl rfl ?_
    refine R_iconst C d_M_whispersAct_49 (v := 3) (by decide +kernel) ?_
    refine R_imul C d_M_whispersAct_50 ?_
    refine R_bind (fun r_ h6 => ?_)
    obtain ⟨v4, μ5⟩ := r_
    refine R_callV C mm_0 (mc_0 q _ _) rfl cf_M_pupilWhispers rfl ml_M_426 im_M_pupilWhispers sl_M_M_pupilWhispers_M_pupilWhispers (c_M_pupilWhispers (gk C) h6) (by decide) (by decide) rfl rfl (Nat.le_of_ble_eq_true rfl) d_M_whispersAct_51 ?_
    exact R_iret C rfl d_M_whispersAct_54
  refine R_ite (fun e30 => ?_) (fun e30 => ?_)
  · refine R_tsw C e30 d_M_whispersAct_6 (tgt := 89) (by decide +kernel) (by decide +kernel) rfl (by decide) ?_
    refine R_aload_n C 0 d_M_whispersAct_89 rfl rfl ?_
    refine R_iload_n C 1 d_M_whispersAct_90 rfl rfl ?_
    refine R_iload_n C 2 d_M_whispersAct_91 rfl rfl ?_
    refine R_bind (fun r_ h9 => ?_)
    obtain ⟨v7, μ8⟩ := r_
    refine R_callV C mm_0 (mc_0 q _ _) rfl cf_M_pupilWhispers rfl ml_M_426 im_M_pupilWhispers sl_M_M_pupilWhispers_M_pupilWhispers (c_M_pupilWhispers (gk C) h9) (by decide) (by decide) rfl rfl (Nat.le_of_ble_eq_true rfl) d_M_whispersAct_92 ?_
    exact R_iret C rfl d_M_whispersAct_95
  refine R_ite (fun e31 => ?_) (fun e31 => ?_)
  · refine R_tsw C e31 d_M_whispersAct_6 (tgt := 55) (by decide +kernel) (by decide +kernel) rfl (by decide) ?_
    refine R_aload_n C 0 d_M_whispersAct_55 rfl rfl ?_
    refine R_bipush C d_M_whispersAct_56 (v := 50) (by decide +kernel) ?_
    refine R_bind (fun μ10 h11 => ?_)
    refine R_callV C mm_0 (mc_0 q _ _) rfl cf_M_body rfl ml_M_423 im_M_body sl_M_M_body_M_body (c_M_body (gk C) h11) (by decide) (by decide) rfl rfl (Nat.le_of_ble_eq_true rfl) d_M_whispersAct_58 ?_
    refine R_aload_n C 0 d_M_whispersAct_61 rfl rfl ?_
    refine R_iload_n C 1 d_M_whispersAct_62 rfl rfl ?_
    refine R_iload_n C 2 d_M_whispersAct_63 rfl rfl ?_
    refine R_bind (fun r_ h14 => ?_)
    obtain ⟨v12, μ13⟩ := r_
    refine R_callV C mm_0 (mc_0 q _ _) rfl cf_M_pupilWhispers rfl ml_M_426 im_M_pupilWhispers sl_M_M_pupilWhispers_M_pupilWhispers (c_M_pupilWhispers (gk C) h14) (by decide) (by decide) rfl rfl (Nat.le_of_ble_eq_true rfl) d_M_whispersAct_64 ?_
    refine R_ineg C d_M_whispersAct_67 ?_
    exact R_iret C rfl d_M_whispersAct_68
  refine R_ite (fun e32 => ?_) (fun e32 => ?_)
  · refine R_tsw C e32 d_M_whispersAct_6 (tgt := 40) (by decide +kernel) (by decide +kernel) rfl (by decide) ?_
    refine R_aload_n C 0 d_M_whispersAct_40 rfl rfl ?_
    refine R_bipush C d_M_whispersAct_41 (v := 30) (by decide +kernel) ?_
    refine R_bind (fun μ15 h16 => ?_)
    refine R_callV C mm_0 (mc_0 q _ _) rfl cf_M_body rfl ml_M_423 im_M_body sl_M_M_body_M_body (c_M_body (gk C) h16) (by decide) (by decide) rfl rfl (Nat.le_of_ble_eq_true rfl) d_M_whispersAct_43 ?_
    refine R_aload_n C 0 d_M_whispersAct_46 rfl rfl ?_
    refine R_iload_n C 1 d_M_whispersAct_47 rfl rfl ?_
    refine R_iload_n C 2 d_M_whispersAct_48 rfl rfl ?_
    refine R_iconst C d_M_whispersAct_49 (v := 3) (by decide +kernel) ?_
    refine R_imul C d_M_whispersAct_50 ?_
    refine R_bind (fun r_ h19 => ?_)
    obtain ⟨v17, μ18⟩ := r_
    refine R_callV C mm_0 (mc_0 q _ _) rfl cf_M_pupilWhispers rfl ml_M_426 im_M_pupilWhispers sl_M_M_pupilWhispers_M_pupilWhispers (c_M_pupilWhispers (gk C) h19) (by decide) (by decide) rfl rfl (Nat.le_of_ble_eq_true rfl) d_M_whispersAct_51 ?_
    exact R_iret C rfl d_M_whispersAct_54
  refine R_ite (fun e33 => ?_) (fun e33 => ?_)
  · refine R_tsw C e33 d_M_whispersAct_6 (tgt := 69) (by decide +kernel) (by decide +kernel) rfl (by decide) ?_
    refine R_aload_n C 0 d_M_whispersAct_69 rfl rfl ?_
    refine R_bipush C d_M_whispersAct_70 (v := 71) (by decide +kernel) ?_
    refine R_bind (fun μ20 h21 => ?_)
    refine R_callV C mm_0 (mc_0 q _ _) rfl cf_M_body rfl ml_M_423 im_M_body sl_M_M_body_M_body (c_M_body (gk C) h21) (by decide) (by decide) rfl rfl (Nat.le_of_ble_eq_true rfl) d_M_whispersAct_72 ?_
    refine R_aload_n C 0 d_M_whispersAct_75 rfl rfl ?_
    refine R_iload_n C 1 d_M_whispersAct_76 rfl rfl ?_
    refine R_iload_n C 2 d_M_whispersAct_77 rfl rfl ?_
    refine R_bind (fun r_ h24 => ?_)
    obtain ⟨v22, μ23⟩ := r_
    refine R_callV C mm_0 (mc_0 q _ _) rfl cf_M_pupilWhispers rfl ml_M_426 im_M_pupilWhispers sl_M_M_pupilWhispers_M_pupilWhispers (c_M_pupilWhispers (gk C) h24) (by decide) (by decide) rfl rfl (Nat.le_of_ble_eq_true rfl) d_M_whispersAct_78 ?_
    refine R_aload_n C 0 d_M_whispersAct_81 rfl rfl ?_
    refine gf_M_v C fl_M_26 d_M_whispersAct_82 ?_
    refine R_iload_n C 1 d_M_whispersAct_85 rfl rfl ?_
    refine R_iald C mm_5 (mc_5 q _ _) d_M_whispersAct_86 (fun v25 => ?_)
    refine R_ixor C d_M_whispersAct_87 ?_
    exact R_iret C rfl d_M_whispersAct_88
  refine R_tswd C d_M_whispersAct_6 (tgt := 89) (sw_out (L := [2, 3, 4, 5, 6]) (n := 5) (by decide +kernel) (by decide +kernel) (List.forall_mem_cons.mpr ⟨e29, List.forall_mem_cons.mpr ⟨e30, List.forall_mem_cons.mpr ⟨e31, List.forall_mem_cons.mpr ⟨e32, List.forall_mem_cons.mpr ⟨e33, fun _ h => absurd h List.not_mem_nil⟩⟩⟩⟩⟩)) (by decide) ?_
  refine R_aload_n C 0 d_M_whispersAct_89 rfl rfl ?_
  refine R_iload_n C 1 d_M_whispersAct_90 rfl rfl ?_
  refine R_iload_n C 2 d_M_whispersAct_91 rfl rfl ?_
  refine R_bind (fun r_ h28 => ?_)
  obtain ⟨v26, μ27⟩ := r_
  refine R_callV C mm_0 (mc_0 q _ _) rfl cf_M_pupilWhispers rfl ml_M_426 im_M_pupilWhispers sl_M_M_pupilWhispers_M_pupilWhispers (c_M_pupilWhispers (gk C) h28) (by decide) (by decide) rfl rfl (Nat.le_of_ble_eq_true rfl) d_M_whispersAct_92 ?_
  exact R_iret C rfl d_M_whispersAct_95
theorem c_M_whispersAct {q : QT} (hg : GOk sdM q) {a1 : Int32} {a2 : Int32} {μ : Mm} {ν : Ml} {o : Int32 × Mm} (ho : F_M_whispersAct a1 a2 μ = some o) : Ct sdM q y_M_whispersAct prog_14_method_94_code 3 (some (FieldType.int)) 2 [.ref (q.2.2.1 0), .int a1, .int a2] μ ν ((φIm ν) o).1 ((φIm ν) o).2.1 ((φIm ν) o).2.2 := Ct_of rfl hg (fun z C => w_M_whispersAct C) (Nat.le_of_ble_eq_true rfl) ho
def F_M_learnsBy (a1 : Int32) (a2 : Int32) (μ : Mm) : Option (Int32) := (F_M_has (μ 0 1) a1).bind fun v1 => (if v1 = 0 then (F_M_cost μ).bind fun v3 => if v3 = 0 then none else (rdI (μ 4) 6 a1).bind fun v5 => (if v5 = 2 then (F_M_beside a1 μ).bind fun v6 => (F_M_many v6).bind fun v8 => (F_M_least0 ((10 - (a2 / v3)) - v8)).bind fun v10 => some v10 else if v5 = 3 then (rdI (μ 6) 6 a1).bind fun v12 => jn (α := Int32) (fun K16 => (if v12 ≤ 2 then K16 (10 - (a2 / v3)) else K16 ((10 - (a2 / v3)) - 5))) (fun (j13 : Int32) => (F_M_least0 j13).bind fun v14 => some v14) else if v5 = 4 then (F_M_least0 (10 - (a2 / v3))).bind fun v17 => some v17 else if v5 = 5 then (F_M_beside a1 μ).bind fun v19 => (F_M_many v19).bind fun v21 => (rdI (μ 5) 6 a1).bind fun v23 => (F_M_least0 (((10 - (a2 / v3)) - v21) - v23)).bind fun v24 => some v24 else if v5 = 6 then (rdI (μ 6) 6 a1).bind fun v26 => jn (α := Int32) (fun K30 => (if v26 ≤ 2 then K30 (10 - (a2 / v3)) else K30 ((10 - (a2 / v3)) - 5))) (fun (j27 : Int32) => (F_M_least0 j27).bind fun v28 => some v28) else (F_M_least0 (10 - (a2 / v3))).bind fun v31 => some v31) else some 0)
theorem d_M_learnsBy_0 : decode prog_14_method_50_code 0 = .ok (.aload_n 0, 1) := by decide +kernel
theorem d_M_learnsBy_1 : decode prog_14_method_50_code 1 = .ok (.aload_n 0, 1) := by decide +kernel
theorem d_M_learnsBy_5 : decode prog_14_method_50_code 5 = .ok (.iload_n 1, 1) := by decide +kernel
theorem d_M_learnsBy_6 : decode prog_14_method_50_code 6 = .ok (.invokevirtual 221, 3) := by decide +kernel
theorem d_M_learnsBy_14 : decode prog_14_method_50_code 14 = .ok (.bipush 10, 2) := by decide +kernel
theorem d_M_learnsBy_16 : decode prog_14_method_50_code 16 = .ok (.iload_n 2, 1) := by decide +kernel
theorem d_M_learnsBy_17 : decode prog_14_method_50_code 17 = .ok (.aload_n 0, 1) := by decide +kernel
theorem d_M_learnsBy_18 : decode prog_14_method_50_code 18 = .ok (.invokevirtual 343, 3) := by decide +kernel
theorem d_M_learnsBy_22 : decode prog_14_method_50_code 22 = .ok (.isub, 1) := by decide +kernel
theorem d_M_learnsBy_23 : decode prog_14_method_50_code 23 = .ok (.istore_n 3, 1) := by decide +kernel
theorem d_M_learnsBy_24 : decode prog_14_method_50_code 24 = .ok (.aload_n 0, 1) := by decide +kernel
theorem d_M_learnsBy_28 : decode prog_14_method_50_code 28 = .ok (.iload_n 1, 1) := by decide +kernel
theorem d_M_learnsBy_30 : decode prog_14_method_50_code 30 = .ok (.tableswitch 95 2 6 #[34, 50, 95, 72, 50], 34) := by decide +kernel
theorem d_M_learnsBy_64 : decode prog_14_method_50_code 64 = .ok (.aload_n 0, 1) := by decide +kernel
theorem d_M_learnsBy_65 : decode prog_14_method_50_code 65 = .ok (.iload_n 3, 1) := by decide +kernel
theorem d_M_learnsBy_66 : decode prog_14_method_50_code 66 = .ok (.aload_n 0, 1) := by decide +kernel
theorem d_M_learnsBy_67 : decode prog_14_method_50_code 67 = .ok (.aload_n 0, 1) := by decide +kernel
theorem d_M_learnsBy_68 : decode prog_14_method_50_code 68 = .ok (.iload_n 1, 1) := by decide +kernel
theorem d_M_learnsBy_69 : decode prog_14_method_50_code 69 = .ok (.invokevirtual 325, 3) := by decide +kernel
theorem d_M_learnsBy_72 : decode prog_14_method_50_code 72 = .ok (.invokevirtual 328, 3) := by decide +kernel
theorem d_M_learnsBy_75 : decode prog_14_method_50_code 75 = .ok (.isub, 1) := by decide +kernel
theorem d_M_learnsBy_76 : decode prog_14_method_50_code 76 = .ok (.invokevirtual 319, 3) := by decide +kernel
theorem d_M_learnsBy_79 : decode prog_14_method_50_code 79 = .ok (.ireturn, 1) := by decide +kernel
theorem d_M_learnsBy_80 : decode prog_14_method_50_code 80 = .ok (.aload_n 0, 1) := by decide +kernel
theorem d_M_learnsBy_81 : decode prog_14_method_50_code 81 = .ok (.aload_n 0, 1) := by decide +kernel
theorem d_M_learnsBy_85 : decode prog_14_method_50_code 85 = .ok (.iload_n 1, 1) := by decide +kernel
theorem d_M_learnsBy_87 : decode prog_14_method_50_code 87 = .ok (.iconst 2, 1) := by decide +kernel
theorem d_M_learnsBy_97 : decode prog_14_method_50_code 97 = .ok (.iload_n 3, 1) := by decide +kernel
theorem d_M_learnsBy_91 : decode prog_14_method_50_code 91 = .ok (.iload_n 3, 1) := by decide +kernel
theorem d_M_learnsBy_92 : decode prog_14_method_50_code 92 = .ok (.iconst 5, 1) := by decide +kernel
theorem d_M_learnsBy_93 : decode prog_14_method_50_code 93 = .ok (.isub, 1) := by decide +kernel
theorem d_M_learnsBy_94 : decode prog_14_method_50_code 94 = .ok (.goto 4, 3) := by decide +kernel
theorem d_M_learnsBy_88 : decode prog_14_method_50_code 88 = .ok (.if_icmp .le 9, 3) := by decide +kernel
theorem d_M_learnsBy_98 : decode prog_14_method_50_code 98 = .ok (.invokevirtual 319, 3) := by decide +kernel
theorem d_M_learnsBy_101 : decode prog_14_method_50_code 101 = .ok (.ireturn, 1) := by decide +kernel
theorem d_M_learnsBy_82 : decode prog_14_method_50_code 82 = .ok (.getfield 29, 3) := by decide +kernel
theorem d_M_learnsBy_125 : decode prog_14_method_50_code 125 = .ok (.aload_n 0, 1) := by decide +kernel
theorem d_M_learnsBy_126 : decode prog_14_method_50_code 126 = .ok (.iload_n 3, 1) := by decide +kernel
theorem d_M_learnsBy_127 : decode prog_14_method_50_code 127 = .ok (.invokevirtual 319, 3) := by decide +kernel
theorem d_M_learnsBy_130 : decode prog_14_method_50_code 130 = .ok (.ireturn, 1) := by decide +kernel
theorem d_M_learnsBy_102 : decode prog_14_method_50_code 102 = .ok (.aload_n 0, 1) := by decide +kernel
theorem d_M_learnsBy_103 : decode prog_14_method_50_code 103 = .ok (.iload_n 3, 1) := by decide +kernel
theorem d_M_learnsBy_104 : decode prog_14_method_50_code 104 = .ok (.aload_n 0, 1) := by decide +kernel
theorem d_M_learnsBy_105 : decode prog_14_method_50_code 105 = .ok (.aload_n 0, 1) := by decide +kernel
theorem d_M_learnsBy_106 : decode prog_14_method_50_code 106 = .ok (.iload_n 1, 1) := by decide +kernel
theorem d_M_learnsBy_107 : decode prog_14_method_50_code 107 = .ok (.invokevirtual 325, 3) := by decide +kernel
theorem d_M_learnsBy_110 : decode prog_14_method_50_code 110 = .ok (.invokevirtual 328, 3) := by decide +kernel
theorem d_M_learnsBy_113 : decode prog_14_method_50_code 113 = .ok (.isub, 1) := by decide +kernel
theorem d_M_learnsBy_114 : decode prog_14_method_50_code 114 = .ok (.aload_n 0, 1) := by decide +kernel
theorem d_M_learnsBy_118 : decode prog_14_method_50_code 118 = .ok (.iload_n 1, 1) := by decide +kernel
theorem d_M_learnsBy_120 : decode prog_14_method_50_code 120 = .ok (.isub, 1) := by decide +kernel
theorem d_M_learnsBy_121 : decode prog_14_method_50_code 121 = .ok (.invokevirtual 319, 3) := by decide +kernel
theorem d_M_learnsBy_124 : decode prog_14_method_50_code 124 = .ok (.ireturn, 1) := by decide +kernel
theorem d_M_learnsBy_115 : decode prog_14_method_50_code 115 = .ok (.getfield 26, 3) := by decide +kernel
theorem d_M_learnsBy_25 : decode prog_14_method_50_code 25 = .ok (.getfield 22, 3) := by decide +kernel
theorem d_M_learnsBy_12 : decode prog_14_method_50_code 12 = .ok (.iconst 0, 1) := by decide +kernel
theorem d_M_learnsBy_13 : decode prog_14_method_50_code 13 = .ok (.ireturn, 1) := by decide +kernel
theorem d_M_learnsBy_9 : decode prog_14_method_50_code 9 = .ok (.ifCond .eq 5, 3) := by decide +kernel
theorem d_M_learnsBy_2 : decode prog_14_method_50_code 2 = .ok (.getfield 13, 3) := by decide +kernel
theorem d_M_learnsBy_21 : decode prog_14_method_50_code 21 = .ok (.idiv, 1) := by decide +kernel
theorem d_M_learnsBy_29 : decode prog_14_method_50_code 29 = .ok (.iaload, 1) := by decide +kernel
theorem d_M_learnsBy_86 : decode prog_14_method_50_code 86 = .ok (.iaload, 1) := by decide +kernel
theorem d_M_learnsBy_119 : decode prog_14_method_50_code 119 = .ok (.iaload, 1) := by decide +kernel
set_option maxRecDepth 10000 in
set_option maxHeartbeats 4000000 in
theorem w_M_learnsBy {q : QT} {z : ZT} {a1 : Int32} {a2 : Int32} {μ : Mm} {ν : Ml} (C : Ctx sdM q z prog_14_method_50_code "BesideTomModel" 4 3 (some (FieldType.int))) : R sdM q z 4 (φI μ ν) (F_M_learnsBy a1 a2 μ) μ ν 0 [(0, .ref (q.2.2.1 0)), (1, .int a1), (2, .int a2)] [] := by
  unfold F_M_learnsBy
  refine R_aload_n C 0 d_M_learnsBy_0 rfl rfl ?_
  refine R_aload_n C 0 d_M_learnsBy_1 rfl rfl ?_
  refine gf_M_gone C fl_M_13 d_M_learnsBy_2 ?_
  refine R_iload_n C 1 d_M_learnsBy_5 rfl rfl ?_
  refine R_bind (fun v1 h2 => ?_)
  refine R_callV C mm_0 (mc_0 q _ _) rfl cf_M_has rfl ml_M_221 im_M_has sl_M_M_has_M_has (c_M_has (gk C) h2) (by decide) (by decide) rfl rfl (Nat.le_of_ble_eq_true rfl) d_M_learnsBy_6 ?_
  refine R_if_eq C d_M_learnsBy_9 (tgt := 14) (by decide) ?_ ?_
  · skip
    refine R_bipush C d_M_learnsBy_14 (v := 10) (by decide +kernel) ?_
    refine R_iload_n C 2 d_M_learnsBy_16 rfl rfl ?_
    refine R_aload_n C 0 d_M_learnsBy_17 rfl rfl ?_
    refine R_bind (fun v3 h4 => ?_)
    refine R_callV C mm_0 (mc_0 q _ _) rfl cf_M_cost rfl ml_M_343 im_M_cost sl_M_M_cost_M_cost (c_M_cost (gk C) h4) (by decide) (by decide) rfl rfl (Nat.le_of_ble_eq_true rfl) d_M_learnsBy_18 ?_
    refine R_idivG C d_M_learnsBy_21 ?_
    refine R_isub C d_M_learnsBy_22 ?_
    refine R_istore_n C (lv' := [(3, .int (10 - (a2 / v3))), (0, .ref (q.2.2.1 0)), (1, .int a1), (2, .int a2)]) d_M_learnsBy_23 rfl (by decide) rfl ?_
    refine R_aload_n C 1 d_M_learnsBy_24 rfl rfl ?_
    refine gf_M_kind C fl_M_22 d_M_learnsBy_25 ?_
    refine R_iload_n C 2 d_M_learnsBy_28 rfl rfl ?_
    refine R_iald C mm_4 (mc_4 q _ _) d_M_learnsBy_29 (fun v5 => ?_)
    refine R_ite (fun e33 => ?_) (fun e33 => ?_)
    · refine R_tsw C e33 d_M_learnsBy_30 (tgt := 64) (by decide +kernel) (by decide +kernel) rfl (by decide) ?_
      refine R_aload_n C 1 d_M_learnsBy_64 rfl rfl ?_
      refine R_iload_n C 0 d_M_learnsBy_65 rfl rfl ?_
      refine R_aload_n C 1 d_M_learnsBy_66 rfl rfl ?_
      refine R_aload_n C 1 d_M_learnsBy_67 rfl rfl ?_
      refine R_iload_n C 2 d_M_learnsBy_68 rfl rfl ?_
      refine R_bind (fun v6 h7 => ?_)
      refine R_callV C mm_0 (mc_0 q _ _) rfl cf_M_beside rfl ml_M_325 im_M_beside sl_M_M_beside_M_beside (c_M_beside (gk C) h7) (by decide) (by decide) rfl rfl (Nat.le_of_ble_eq_true rfl) d_M_learnsBy_69 ?_
      refine R_bind (fun v8 h9 => ?_)
      refine R_callV C mm_0 (mc_0 q _ _) rfl cf_M_many rfl ml_M_328 im_M_many sl_M_M_many_M_many (c_M_many (gk C) h9) (by decide) (by decide) rfl rfl (Nat.le_of_ble_eq_true rfl) d_M_learnsBy_72 ?_
      refine R_isub C d_M_learnsBy_75 ?_
      refine R_bind (fun v10 h11 => ?_)
      refine R_callV C mm_0 (mc_0 q _ _) rfl cf_M_least0 rfl ml_M_319 im_M_least0 sl_M_M_least0_M_least0 (c_M_least0 (gk C) h11) (by decide) (by decide) rfl rfl (Nat.le_of_ble_eq_true rfl) d_M_learnsBy_76 ?_
      exact R_iret C rfl d_M_learnsBy_79
    refine R_ite (fun e34 => ?_) (fun e34 => ?_)
    · refine R_tsw C e34 d_M_learnsBy_30 (tgt := 80) (by decide +kernel) (by decide +kernel) rfl (by decide) ?_
      refine R_aload_n C 1 d_M_learnsBy_80 rfl rfl ?_
      refine R_aload_n C 1 d_M_learnsBy_81 rfl rfl ?_
      refine gf_M_desk C fl_M_29 d_M_learnsBy_82 ?_
      refine R_iload_n C 2 d_M_learnsBy_85 rfl rfl ?_
      refine R_iald C mm_6 (mc_6 q _ _) d_M_learnsBy_86 (fun v12 => ?_)
      refine R_iconst C d_M_learnsBy_87 (v := 2) (by decide +kernel) ?_
      refine R_jn (fun K16 => ∀ (j13 : Int32), R sdM q z 4 (φI μ ν) (K16 j13) μ ν 98 [] [.int j13, .ref (q.2.2.1 0)]) ?_ (fun K16 hK16 => ?_)
      · intro j13
        refine R_bind (fun v14 h15 => ?_)
        refine R_callV C mm_0 (mc_0 q _ _) rfl cf_M_least0 rfl ml_M_319 im_M_least0 sl_M_M_least0_M_least0 (c_M_least0 (gk C) h15) (by decide) (by decide) rfl rfl (Nat.le_of_ble_eq_true rfl) d_M_learnsBy_98 ?_
        exact R_iret C rfl d_M_learnsBy_101
      · skip
        refine R_icmp_le C d_M_learnsBy_88 (tgt := 97) (by decide) ?_ ?_
        · skip
          refine R_iload_n C 0 d_M_learnsBy_97 rfl rfl ?_
          exact R_sub [] rfl (hK16 (10 - (a2 / v3)))
        · skip
          refine R_iload_n C 0 d_M_learnsBy_91 rfl rfl ?_
          refine R_iconst C d_M_learnsBy_92 (v := 5) (by decide +kernel) ?_
          refine R_isub C d_M_learnsBy_93 ?_
          refine R_goto C d_M_learnsBy_94 (tgt := 98) (by decide) ?_
          exact R_sub [] rfl (hK16 ((10 - (a2 / v3)) - 5))
    refine R_ite (fun e35 => ?_) (fun e35 => ?_)
    · refine R_tsw C e35 d_M_learnsBy_30 (tgt := 125) (by decide +kernel) (by decide +kernel) rfl (by decide) ?_
      refine R_aload_n C 1 d_M_learnsBy_125 rfl rfl ?_
      refine R_iload_n C 0 d_M_learnsBy_126 rfl rfl ?_
      refine R_bind (fun v17 h18 => ?_)
      refine R_callV C mm_0 (mc_0 q _ _) rfl cf_M_least0 rfl ml_M_319 im_M_least0 sl_M_M_least0_M_least0 (c_M_least0 (gk C) h18) (by decide) (by decide) rfl rfl (Nat.le_of_ble_eq_true rfl) d_M_learnsBy_127 ?_
      exact R_iret C rfl d_M_learnsBy_130
    refine R_ite (fun e36 => ?_) (fun e36 => ?_)
    · refine R_tsw C e36 d_M_learnsBy_30 (tgt := 102) (by decide +kernel) (by decide +kernel) rfl (by decide) ?_
      refine R_aload_n C 1 d_M_learnsBy_102 rfl rfl ?_
      refine R_iload_n C 0 d_M_learnsBy_103 rfl rfl ?_
      refine R_aload_n C 1 d_M_learnsBy_104 rfl rfl ?_
      refine R_aload_n C 1 d_M_learnsBy_105 rfl rfl ?_
      refine R_iload_n C 2 d_M_learnsBy_106 rfl rfl ?_
      refine R_bind (fun v19 h20 => ?_)
      refine R_callV C mm_0 (mc_0 q _ _) rfl cf_M_beside rfl ml_M_325 im_M_beside sl_M_M_beside_M_beside (c_M_beside (gk C) h20) (by decide) (by decide) rfl rfl (Nat.le_of_ble_eq_true rfl) d_M_learnsBy_107 ?_
      refine R_bind (fun v21 h22 => ?_)
      refine R_callV C mm_0 (mc_0 q _ _) rfl cf_M_many rfl ml_M_328 im_M_many sl_M_M_many_M_many (c_M_many (gk C) h22) (by decide) (by decide) rfl rfl (Nat.le_of_ble_eq_true rfl) d_M_learnsBy_110 ?_
      refine R_isub C d_M_learnsBy_113 ?_
      refine R_aload_n C 1 d_M_learnsBy_114 rfl rfl ?_
      refine gf_M_v C fl_M_26 d_M_learnsBy_115 ?_
      refine R_iload_n C 2 d_M_learnsBy_118 rfl rfl ?_
      refine R_iald C mm_5 (mc_5 q _ _) d_M_learnsBy_119 (fun v23 => ?_)
      refine R_isub C d_M_learnsBy_120 ?_
      refine R_bind (fun v24 h25 => ?_)
      refine R_callV C mm_0 (mc_0 q _ _) rfl cf_M_least0 rfl ml_M_319 im_M_least0 sl_M_M_least0_M_least0 (c_M_least0 (gk C) h25) (by decide) (by decide) rfl rfl (Nat.le_of_ble_eq_true rfl) d_M_learnsBy_121 ?_
      exact R_iret C rfl d_M_learnsBy_124
    refine R_ite (fun e37 => ?_) (fun e37 => ?_)
    · refine R_tsw C e37 d_M_learnsBy_30 (tgt := 80) (by decide +kernel) (by decide +kernel) rfl (by decide) ?_
      refine R_aload_n C 1 d_M_learnsBy_80 rfl rfl ?_
      refine R_aload_n C 1 d_M_learnsBy_81 rfl rfl ?_
      refine gf_M_desk C fl_M_29 d_M_learnsBy_82 ?_
      refine R_iload_n C 2 d_M_learnsBy_85 rfl rfl ?_
      refine R_iald C mm_6 (mc_6 q _ _) d_M_learnsBy_86 (fun v26 => ?_)
      refine R_iconst C d_M_learnsBy_87 (v := 2) (by decide +kernel) ?_
      refine R_jn (fun K30 => ∀ (j27 : Int32), R sdM q z 4 (φI μ ν) (K30 j27) μ ν 98 [] [.int j27, .ref (q.2.2.1 0)]) ?_ (fun K30 hK30 => ?_)
      · intro j27
        refine R_bind (fun v28 h29 => ?_)
        refine R_callV C mm_0 (mc_0 q _ _) rfl cf_M_least0 rfl ml_M_319 im_M_least0 sl_M_M_least0_M_least0 (c_M_least0 (gk C) h29) (by decide) (by decide) rfl rfl (Nat.le_of_ble_eq_true rfl) d_M_learnsBy_98 ?_
        exact R_iret C rfl d_M_learnsBy_101
      · skip
        refine R_icmp_le C d_M_learnsBy_88 (tgt := 97) (by decide) ?_ ?_
        · skip
          refine R_iload_n C 0 d_M_learnsBy_97 rfl rfl ?_
          exact R_sub [] rfl (hK30 (10 - (a2 / v3)))
        · skip
          refine R_iload_n C 0 d_M_learnsBy_91 rfl rfl ?_
          refine R_iconst C d_M_learnsBy_92 (v := 5) (by decide +kernel) ?_
          refine R_isub C d_M_learnsBy_93 ?_
          refine R_goto C d_M_learnsBy_94 (tgt := 98) (by decide) ?_
          exact R_sub [] rfl (hK30 ((10 - (a2 / v3)) - 5))
    refine R_tswd C d_M_learnsBy_30 (tgt := 125) (sw_out (L := [2, 3, 4, 5, 6]) (n := 5) (by decide +kernel) (by decide +kernel) (List.forall_mem_cons.mpr ⟨e33, List.forall_mem_cons.mpr ⟨e34, List.forall_mem_cons.mpr ⟨e35, List.forall_mem_cons.mpr ⟨e36, List.forall_mem_cons.mpr ⟨e37, fun _ h => absurd h List.not_mem_nil⟩⟩⟩⟩⟩)) (by decide) ?_
    refine R_aload_n C 1 d_M_learnsBy_125 rfl rfl ?_
    refine R_iload_n C 0 d_M_learnsBy_126 rfl rfl ?_
    refine R_bind (fun v31 h32 => ?_)
    refine R_callV C mm_0 (mc_0 q _ _) rfl cf_M_least0 rfl ml_M_319 im_M_least0 sl_M_M_least0_M_least0 (c_M_least0 (gk C) h32) (by decide) (by decide) rfl rfl (Nat.le_of_ble_eq_true rfl) d_M_learnsBy_127 ?_
    exact R_iret C rfl d_M_learnsBy_130
  · skip
    refine R_iconst C d_M_learnsBy_12 (v := 0) (by decide +kernel) ?_
    exact R_iret C rfl d_M_learnsBy_13
theorem c_M_learnsBy {q : QT} (hg : GOk sdM q) {a1 : Int32} {a2 : Int32} {μ : Mm} {ν : Ml} {o : Int32} (ho : F_M_learnsBy a1 a2 μ = some o) : Ct sdM q y_M_learnsBy prog_14_method_50_code 4 (some (FieldType.int)) 3 [.ref (q.2.2.1 0), .int a1, .int a2] μ ν ((φI μ ν) o).1 ((φI μ ν) o).2.1 ((φI μ ν) o).2.2 := Ct_of rfl hg (fun z C => w_M_learnsBy C) (Nat.le_of_ble_eq_true rfl) ho
def F_M_pupilChats (a1 : Int32) (a2 : Int32) (μ : Mm) : Option (Int32 × Mm) := (F_M_body 11 μ).bind fun μ1 => (F_M_whispersAct a1 a2 μ1).bind fun p_ => match p_ with | (v3, μ4) => (rdI (μ4 5) 6 a1).bind fun v6 => some ((v3 - v6), μ4)
theorem d_M_pupilChats_0 : decode prog_14_method_95_code 0 = .ok (.aload_n 0, 1) := by decide +kernel
theorem d_M_pupilChats_1 : decode prog_14_method_95_code 1 = .ok (.bipush 11, 2) := by decide +kernel
theorem d_M_pupilChats_3 : decode prog_14_method_95_code 3 = .ok (.invokevirtual 423, 3) := by decide +kernel
theorem d_M_pupilChats_6 : decode prog_14_method_95_code 6 = .ok (.aload_n 0, 1) := by decide +kernel
theorem d_M_pupilChats_7 : decode prog_14_method_95_code 7 = .ok (.iload_n 1, 1) := by decide +kernel
theorem d_M_pupilChats_8 : decode prog_14_method_95_code 8 = .ok (.iload_n 2, 1) := by decide +kernel
theorem d_M_pupilChats_9 : decode prog_14_method_95_code 9 = .ok (.invokevirtual 429, 3) := by decide +kernel
theorem d_M_pupilChats_12 : decode prog_14_method_95_code 12 = .ok (.aload_n 0, 1) := by decide +kernel
theorem d_M_pupilChats_16 : decode prog_14_method_95_code 16 = .ok (.iload_n 1, 1) := by decide +kernel
theorem d_M_pupilChats_18 : decode prog_14_method_95_code 18 = .ok (.isub, 1) := by decide +kernel
theorem d_M_pupilChats_19 : decode prog_14_method_95_code 19 = .ok (.ireturn, 1) := by decide +kernel
theorem d_M_pupilChats_13 : decode prog_14_method_95_code 13 = .ok (.getfield 26, 3) := by decide +kernel
theorem d_M_pupilChats_17 : decode prog_14_method_95_code 17 = .ok (.iaload, 1) := by decide +kernel
set_option maxRecDepth 10000 in
set_option maxHeartbeats 4000000 in
theorem w_M_pupilChats {q : QT} {z : ZT} {a1 : Int32} {a2 : Int32} {μ : Mm} {ν : Ml} (C : Ctx sdM q z prog_14_method_95_code "BesideTomModel" 3 3 (some (FieldType.int))) : R sdM q z 3 (φIm ν) (F_M_pupilChats a1 a2 μ) μ ν 0 [(0, .ref (q.2.2.1 0)), (1, .int a1), (2, .int a2)] [] := by
  unfold F_M_pupilChats
  refine R_aload_n C 0 d_M_pupilChats_0 rfl rfl ?_
  refine R_bipush C d_M_pupilChats_1 (v := 11) (by decide +kernel) ?_
  refine R_bind (fun μ1 h2 => ?_)
  refine R_callV C mm_0 (mc_0 q _ _) rfl cf_M_body rfl ml_M_423 im_M_body sl_M_M_body_M_body (c_M_body (gk C) h2) (by decide) (by decide) rfl rfl (Nat.le_of_ble_eq_true rfl) d_M_pupilChats_3 ?_
  refine R_aload_n C 0 d_M_pupilChats_6 rfl rfl ?_
  refine R_iload_n C 1 d_M_pupilChats_7 rfl rfl ?_
  refine R_iload_n C 2 d_M_pupilChats_8 rfl rfl ?_
  refine R_bind (fun r_ h5 => ?_)
  obtain ⟨v3, μ4⟩ := r_
  refine R_callV C mm_0 (mc_0 q _ _) rfl cf_M_whispersAct rfl ml_M_429 im_M_whispersAct sl_M_M_whispersAct_M_whispersAct (c_M_whispersAct (gk C) h5) (by decide) (by decide) rfl rfl (Nat.le_of_ble_eq_true rfl) d_M_pupilChats_9 ?_
  refine R_aload_n C 0 d_M_pupilChats_12 rfl rfl ?_
  refine gf_M_v C fl_M_26 d_M_pupilChats_13 ?_
  refine R_iload_n C 1 d_M_pupilChats_16 rfl rfl ?_
  refine R_iald C mm_5 (mc_5 q _ _) d_M_pupilChats_17 (fun v6 => ?_)
  refine R_isub C d_M_pupilChats_18 ?_
  exact R_iret C rfl d_M_pupilChats_19
theorem c_M_pupilChats {q : QT} (hg : GOk sdM q) {a1 : Int32} {a2 : Int32} {μ : Mm} {ν : Ml} {o : Int32 × Mm} (ho : F_M_pupilChats a1 a2 μ = some o) : Ct sdM q y_M_pupilChats prog_14_method_95_code 3 (some (FieldType.int)) 3 [.ref (q.2.2.1 0), .int a1, .int a2] μ ν ((φIm ν) o).1 ((φIm ν) o).2.1 ((φIm ν) o).2.2 := Ct_of rfl hg (fun z C => w_M_pupilChats C) (Nat.le_of_ble_eq_true rfl) ho
def F_M_takesHead (a1 : Int32) (μ : Mm) : Option (Int32 × Mm) := (F_M_next μ).bind fun v1 => (if v1 = 104 then (wrI μ 16 60 a1 1).bind fun μ3 => (F_M_takesWord 4 4 μ3).bind fun p_ => match p_ with | (v4, μ5) => (rZ v4).bind fun r_ => some (r_, μ5) else if v1 = 119 then (wrI μ 16 60 a1 2).bind fun μ7 => (F_M_takesWord 8 4 μ7).bind fun p_ => match p_ with | (v8, μ9) => (rZ v8).bind fun r_ => some (r_, μ9) else (F_M_second μ).bind fun v11 => jn (α := Int32) (fun K22 => (if v11 = 111 then K22 3 else K22 0)) (fun (j13 : Int32) => (wrI μ 16 60 a1 j13).bind fun μ14 => (rdI (μ14 16) 60 a1).bind fun v15 => (if v15 = 3 then (F_M_takesWord 12 4 μ14).bind fun p_ => match p_ with | (v19, μ20) => (rZ v19).bind fun r_ => some (r_, μ20) else (F_M_takesWord 0 4 μ14).bind fun p_ => match p_ with | (v16, μ17) => (rZ v16).bind fun r_ => some (r_, μ17))))
theorem d_M_takesHead_0 : decode prog_14_method_33_code 0 = .ok (.aload_n 0, 1) := by decide +kernel
theorem d_M_takesHead_1 : decode prog_14_method_33_code 1 = .ok (.invokevirtual 255, 3) := by decide +kernel
theorem d_M_takesHead_4 : decode prog_14_method_33_code 4 = .ok (.lookupswitch 57 #[(104, 28), (119, 42)], 28) := by decide +kernel
theorem d_M_takesHead_32 : decode prog_14_method_33_code 32 = .ok (.aload_n 0, 1) := by decide +kernel
theorem d_M_takesHead_36 : decode prog_14_method_33_code 36 = .ok (.iload_n 1, 1) := by decide +kernel
theorem d_M_takesHead_37 : decode prog_14_method_33_code 37 = .ok (.iconst 1, 1) := by decide +kernel
theorem d_M_takesHead_39 : decode prog_14_method_33_code 39 = .ok (.aload_n 0, 1) := by decide +kernel
theorem d_M_takesHead_40 : decode prog_14_method_33_code 40 = .ok (.iconst 4, 1) := by decide +kernel
theorem d_M_takesHead_41 : decode prog_14_method_33_code 41 = .ok (.iconst 4, 1) := by decide +kernel
theorem d_M_takesHead_42 : decode prog_14_method_33_code 42 = .ok (.invokevirtual 284, 3) := by decide +kernel
theorem d_M_takesHead_45 : decode prog_14_method_33_code 45 = .ok (.ireturn, 1) := by decide +kernel
theorem d_M_takesHead_38 : decode prog_14_method_33_code 38 = .ok (.iastore, 1) := by decide +kernel
theorem d_M_takesHead_33 : decode prog_14_method_33_code 33 = .ok (.getfield 59, 3) := by decide +kernel
theorem d_M_takesHead_46 : decode prog_14_method_33_code 46 = .ok (.aload_n 0, 1) := by decide +kernel
theorem d_M_takesHead_50 : decode prog_14_method_33_code 50 = .ok (.iload_n 1, 1) := by decide +kernel
theorem d_M_takesHead_51 : decode prog_14_method_33_code 51 = .ok (.iconst 2, 1) := by decide +kernel
theorem d_M_takesHead_53 : decode prog_14_method_33_code 53 = .ok (.aload_n 0, 1) := by decide +kernel
theorem d_M_takesHead_54 : decode prog_14_method_33_code 54 = .ok (.bipush 8, 2) := by decide +kernel
theorem d_M_takesHead_56 : decode prog_14_method_33_code 56 = .ok (.iconst 4, 1) := by decide +kernel
theorem d_M_takesHead_57 : decode prog_14_method_33_code 57 = .ok (.invokevirtual 284, 3) := by decide +kernel
theorem d_M_takesHead_60 : decode prog_14_method_33_code 60 = .ok (.ireturn, 1) := by decide +kernel
theorem d_M_takesHead_52 : decode prog_14_method_33_code 52 = .ok (.iastore, 1) := by decide +kernel
theorem d_M_takesHead_47 : decode prog_14_method_33_code 47 = .ok (.getfield 59, 3) := by decide +kernel
theorem d_M_takesHead_61 : decode prog_14_method_33_code 61 = .ok (.aload_n 0, 1) := by decide +kernel
theorem d_M_takesHead_65 : decode prog_14_method_33_code 65 = .ok (.iload_n 1, 1) := by decide +kernel
theorem d_M_takesHead_66 : decode prog_14_method_33_code 66 = .ok (.aload_n 0, 1) := by decide +kernel
theorem d_M_takesHead_67 : decode prog_14_method_33_code 67 = .ok (.invokevirtual 287, 3) := by decide +kernel
theorem d_M_takesHead_70 : decode prog_14_method_33_code 70 = .ok (.bipush 111, 2) := by decide +kernel
theorem d_M_takesHead_79 : decode prog_14_method_33_code 79 = .ok (.iconst 0, 1) := by decide +kernel
theorem d_M_takesHead_75 : decode prog_14_method_33_code 75 = .ok (.iconst 3, 1) := by decide +kernel
theorem d_M_takesHead_76 : decode prog_14_method_33_code 76 = .ok (.goto 4, 3) := by decide +kernel
theorem d_M_takesHead_72 : decode prog_14_method_33_code 72 = .ok (.if_icmp .ne 7, 3) := by decide +kernel
theorem d_M_takesHead_81 : decode prog_14_method_33_code 81 = .ok (.aload_n 0, 1) := by decide +kernel
theorem d_M_takesHead_85 : decode prog_14_method_33_code 85 = .ok (.iload_n 1, 1) := by decide +kernel
theorem d_M_takesHead_87 : decode prog_14_method_33_code 87 = .ok (.iconst 3, 1) := by decide +kernel
theorem d_M_takesHead_101 : decode prog_14_method_33_code 101 = .ok (.aload_n 0, 1) := by decide +kernel
theorem d_M_takesHead_102 : decode prog_14_method_33_code 102 = .ok (.iconst 0, 1) := by decide +kernel
theorem d_M_takesHead_103 : decode prog_14_method_33_code 103 = .ok (.iconst 4, 1) := by decide +kernel
theorem d_M_takesHead_104 : decode prog_14_method_33_code 104 = .ok (.invokevirtual 284, 3) := by decide +kernel
theorem d_M_takesHead_107 : decode prog_14_method_33_code 107 = .ok (.ireturn, 1) := by decide +kernel
theorem d_M_takesHead_91 : decode prog_14_method_33_code 91 = .ok (.aload_n 0, 1) := by decide +kernel
theorem d_M_takesHead_92 : decode prog_14_method_33_code 92 = .ok (.bipush 12, 2) := by decide +kernel
theorem d_M_takesHead_94 : decode prog_14_method_33_code 94 = .ok (.iconst 4, 1) := by decide +kernel
theorem d_M_takesHead_95 : decode prog_14_method_33_code 95 = .ok (.invokevirtual 284, 3) := by decide +kernel
theorem d_M_takesHead_98 : decode prog_14_method_33_code 98 = .ok (.goto 9, 3) := by decide +kernel
theorem d_M_takesHead_88 : decode prog_14_method_33_code 88 = .ok (.if_icmp .ne 13, 3) := by decide +kernel
theorem d_M_takesHead_82 : decode prog_14_method_33_code 82 = .ok (.getfield 59, 3) := by decide +kernel
theorem d_M_takesHead_80 : decode prog_14_method_33_code 80 = .ok (.iastore, 1) := by decide +kernel
theorem d_M_takesHead_62 : decode prog_14_method_33_code 62 = .ok (.getfield 59, 3) := by decide +kernel
theorem d_M_takesHead_86 : decode prog_14_method_33_code 86 = .ok (.iaload, 1) := by decide +kernel
set_option maxRecDepth 10000 in
set_option maxHeartbeats 4000000 in
theorem w_M_takesHead {q : QT} {z : ZT} {a1 : Int32} {μ : Mm} {ν : Ml} (C : Ctx sdM q z prog_14_method_33_code "BesideTomModel" 2 3 (some (FieldType.boolean))) : R sdM q z 2 (φIm ν) (F_M_takesHead a1 μ) μ ν 0 [(0, .ref (q.2.2.1 0)), (1, .int a1)] [] := by
  unfold F_M_takesHead
  refine R_aload_n C 0 d_M_takesHead_0 rfl rfl ?_
  refine R_bind (fun v1 h2 => ?_)
  refine R_callV C mm_0 (mc_0 q _ _) rfl cf_M_next rfl ml_M_255 im_M_next sl_M_M_next_M_next (c_M_next (gk C) h2) (by decide) (by decide) rfl rfl (Nat.le_of_ble_eq_true rfl) d_M_takesHead_1 ?_
  refine R_ite (fun e23 => ?_) (fun e23 => ?_)
  · rw [e23]
    refine R_lsw C d_M_takesHead_4 (tgt := 32) (by decide +kernel) (off := 28) (by decide +kernel) (by decide) ?_
    refine R_aload_n C 0 d_M_takesHead_32 rfl rfl ?_
    refine gf_M_word C fl_M_59 d_M_takesHead_33 ?_
    refine R_iload_n C 1 d_M_takesHead_36 rfl rfl ?_
    refine R_iconst C d_M_takesHead_37 (v := 1) (by decide +kernel) ?_
    refine R_iast C mm_16 (fun h => mc_16 q h _) d_M_takesHead_38 (fun μ3 => ?_)
    refine R_aload_n C 0 d_M_takesHead_39 rfl rfl ?_
    refine R_iconst C d_M_takesHead_40 (v := 4) (by decide +kernel) ?_
    refine R_iconst C d_M_takesHead_41 (v := 4) (by decide +kernel) ?_
    refine R_bind (fun r_ h6 => ?_)
    obtain ⟨v4, μ5⟩ := r_
    refine R_callV C mm_0 (mc_0 q _ _) rfl cf_M_takesWord rfl ml_M_284 im_M_takesWord sl_M_M_takesWord_M_takesWord (c_M_takesWord (gk C) h6) (by decide) (by decide) rfl rfl (Nat.le_of_ble_eq_true rfl) d_M_takesHead_42 ?_
    exact R_zretG C (fun a => ⟨_, rfl, rfl⟩) d_M_takesHead_45
  refine R_ite (fun e24 => ?_) (fun e24 => ?_)
  · rw [e24]
    refine R_lsw C d_M_takesHead_4 (tgt := 46) (by decide +kernel) (off := 42) (by decide +kernel) (by decide) ?_
    refine R_aload_n C 0 d_M_takesHead_46 rfl rfl ?_
    refine gf_M_word C fl_M_59 d_M_takesHead_47 ?_
    refine R_iload_n C 1 d_M_takesHead_50 rfl rfl ?_
    refine R_iconst C d_M_takesHead_51 (v := 2) (by decide +kernel) ?_
    refine R_iast C mm_16 (fun h => mc_16 q h _) d_M_takesHead_52 (fun μ7 => ?_)
    refine R_aload_n C 0 d_M_takesHead_53 rfl rfl ?_
    refine R_bipush C d_M_takesHead_54 (v := 8) (by decide +kernel) ?_
    refine R_iconst C d_M_takesHead_56 (v := 4) (by decide +kernel) ?_
    refine R_bind (fun r_ h10 => ?_)
    obtain ⟨v8, μ9⟩ := r_
    refine R_callV C mm_0 (mc_0 q _ _) rfl cf_M_takesWord rfl ml_M_284 im_M_takesWord sl_M_M_takesWord_M_takesWord (c_M_takesWord (gk C) h10) (by decide) (by decide) rfl rfl (Nat.le_of_ble_eq_true rfl) d_M_takesHead_57 ?_
    exact R_zretG C (fun a => ⟨_, rfl, rfl⟩) d_M_takesHead_60
  refine R_lsw C d_M_takesHead_4 (tgt := 61) (by decide +kernel) (off := 57) ((lv_osw e23 (a := 104) (by decide +kernel)).trans ((lv_osw e24 (a := 119) (by decide +kernel)).trans rfl)) (by decide) ?_
  refine R_aload_n C 0 d_M_takesHead_61 rfl rfl ?_
  refine gf_M_word C fl_M_59 d_M_takesHead_62 ?_
  refine R_iload_n C 1 d_M_takesHead_65 rfl rfl ?_
  refine R_aload_n C 0 d_M_takesHead_66 rfl rfl ?_
  refine R_bind (fun v11 h12 => ?_)
  refine R_callV C mm_0 (mc_0 q _ _) rfl cf_M_second rfl ml_M_287 im_M_second sl_M_M_second_M_second (c_M_second (gk C) h12) (by decide) (by decide) rfl rfl (Nat.le_of_ble_eq_true rfl) d_M_takesHead_67 ?_
  refine R_bipush C d_M_takesHead_70 (v := 111) (by decide +kernel) ?_
  refine R_jn (fun K22 => ∀ (j13 : Int32), R sdM q z 2 (φIm ν) (K22 j13) μ ν 80 [(0, .ref (q.2.2.1 0)), (1, .int a1)] [.int j13, .int a1, .ref (q.2.2.1 16)]) ?_ (fun K22 hK22 => ?_)
  · intro j13
    refine R_iast C mm_16 (fun h => mc_16 q h _) d_M_takesHead_80 (fun μ14 => ?_)
    refine R_aload_n C 0 d_M_takesHead_81 rfl rfl ?_
    refine gf_M_word C fl_M_59 d_M_takesHead_82 ?_
    refine R_iload_n C 1 d_M_takesHead_85 rfl rfl ?_
    refine R_iald C mm_16 (mc_16 q _ _) d_M_takesHead_86 (fun v15 => ?_)
    refine R_iconst C d_M_takesHead_87 (v := 3) (by decide +kernel) ?_
    refine R_icmp_ne C d_M_takesHead_88 (tgt := 101) (by decide) ?_ ?_
    · skip
      refine R_aload_n C 0 d_M_takesHead_101 rfl rfl ?_
      refine R_iconst C d_M_takesHead_102 (v := 0) (by decide +kernel) ?_
      refine R_iconst C d_M_takesHead_103 (v := 4) (by decide +kernel) ?_
      refine R_bind (fun r_ h18 => ?_)
      obtain ⟨v16, μ17⟩ := r_
      refine R_callV C mm_0 (mc_0 q _ _) rfl cf_M_takesWord rfl ml_M_284 im_M_takesWord sl_M_M_takesWord_M_takesWord (c_M_takesWord (gk C) h18) (by decide) (by decide) rfl rfl (Nat.le_of_ble_eq_true rfl) d_M_takesHead_104 ?_
      exact R_zretG C (fun a => ⟨_, rfl, rfl⟩) d_M_takesHead_107
    · skip
      refine R_aload_n C 0 d_M_takesHead_91 rfl rfl ?_
      refine R_bipush C d_M_takesHead_92 (v := 12) (by decide +kernel) ?_
      refine R_iconst C d_M_takesHead_94 (v := 4) (by decide +kernel) ?_
      refine R_bind (fun r_ h21 => ?_)
      obtain ⟨v19, μ20⟩ := r_
      refine R_callV C mm_0 (mc_0 q _ _) rfl cf_M_takesWord rfl ml_M_284 im_M_takesWord sl_M_M_takesWord_M_takesWord (c_M_takesWord (gk C) h21) (by decide) (by decide) rfl rfl (Nat.le_of_ble_eq_true rfl) d_M_takesHead_95 ?_
      refine R_goto C d_M_takesHead_98 (tgt := 107) (by decide) ?_
      exact R_zretG C (fun a => ⟨_, rfl, rfl⟩) d_M_takesHead_107
  · skip
    refine R_icmp_ne C d_M_takesHead_72 (tgt := 79) (by decide) ?_ ?_
    · skip
      refine R_iconst C d_M_takesHead_79 (v := 0) (by decide +kernel) ?_
      exact R_sub [0, 1] rfl (hK22 0)
    · skip
      refine R_iconst C d_M_takesHead_75 (v := 3) (by decide +kernel) ?_
      refine R_goto C d_M_takesHead_76 (tgt := 80) (by decide) ?_
      exact R_sub [0, 1] rfl (hK22 3)
theorem c_M_takesHead {q : QT} (hg : GOk sdM q) {a1 : Int32} {μ : Mm} {ν : Ml} {o : Int32 × Mm} (ho : F_M_takesHead a1 μ = some o) : Ct sdM q y_M_takesHead prog_14_method_33_code 2 (some (FieldType.boolean)) 3 [.ref (q.2.2.1 0), .int a1] μ ν ((φIm ν) o).1 ((φIm ν) o).2.1 ((φIm ν) o).2.2 := Ct_of rfl hg (fun z C => w_M_takesHead C) (Nat.le_of_ble_eq_true rfl) ho
def F_M_takesTest (μ : Mm) : Option (Int32 × Mm) := (F_M_next μ).bind fun v1 => (F_M_place v1).bind fun v3 => (if 0 ≤ v3 then lt_ (up2 μ 0 12 ((μ 0 12) + 1)) fun μ5 => (F_M_next μ5).bind fun v6 => (F_M_in v6 60 62).bind fun v8 => (if v8 = 0 then some (0, μ5) else lt_ (up2 μ5 0 12 ((μ5 0 12) + 1)) fun μ10 => (F_M_takesNumber μ10).bind fun p_ => match p_ with | (v11, μ12) => (if v11 = 0 then some (0, μ12) else (F_M_emits (((1000 * v3) + (100 * (v6 - 60))) + (μ12 0 13)) μ12).bind fun μ14 => (F_M_whole μ14).bind fun μ16 => some (1, μ16))) else some (0, μ))
theorem d_M_takesTest_0 : decode prog_14_method_31_code 0 = .ok (.aload_n 0, 1) := by decide +kernel
theorem d_M_takesTest_1 : decode prog_14_method_31_code 1 = .ok (.aload_n 0, 1) := by decide +kernel
theorem d_M_takesTest_2 : decode prog_14_method_31_code 2 = .ok (.invokevirtual 255, 3) := by decide +kernel
theorem d_M_takesTest_5 : decode prog_14_method_31_code 5 = .ok (.invokevirtual 269, 3) := by decide +kernel
theorem d_M_takesTest_8 : decode prog_14_method_31_code 8 = .ok (.istore_n 1, 1) := by decide +kernel
theorem d_M_takesTest_9 : decode prog_14_method_31_code 9 = .ok (.iload_n 1, 1) := by decide +kernel
theorem d_M_takesTest_15 : decode prog_14_method_31_code 15 = .ok (.aload_n 0, 1) := by decide +kernel
theorem d_M_takesTest_16 : decode prog_14_method_31_code 16 = .ok (.dup, 1) := by decide +kernel
theorem d_M_takesTest_20 : decode prog_14_method_31_code 20 = .ok (.iconst 1, 1) := by decide +kernel
theorem d_M_takesTest_21 : decode prog_14_method_31_code 21 = .ok (.iadd, 1) := by decide +kernel
theorem d_M_takesTest_25 : decode prog_14_method_31_code 25 = .ok (.aload_n 0, 1) := by decide +kernel
theorem d_M_takesTest_26 : decode prog_14_method_31_code 26 = .ok (.invokevirtual 255, 3) := by decide +kernel
theorem d_M_takesTest_29 : decode prog_14_method_31_code 29 = .ok (.istore_n 2, 1) := by decide +kernel
theorem d_M_takesTest_30 : decode prog_14_method_31_code 30 = .ok (.aload_n 0, 1) := by decide +kernel
theorem d_M_takesTest_31 : decode prog_14_method_31_code 31 = .ok (.iload_n 2, 1) := by decide +kernel
theorem d_M_takesTest_32 : decode prog_14_method_31_code 32 = .ok (.bipush 60, 2) := by decide +kernel
theorem d_M_takesTest_34 : decode prog_14_method_31_code 34 = .ok (.bipush 62, 2) := by decide +kernel
theorem d_M_takesTest_36 : decode prog_14_method_31_code 36 = .ok (.invokevirtual 225, 3) := by decide +kernel
theorem d_M_takesTest_44 : decode prog_14_method_31_code 44 = .ok (.aload_n 0, 1) := by decide +kernel
theorem d_M_takesTest_45 : decode prog_14_method_31_code 45 = .ok (.dup, 1) := by decide +kernel
theorem d_M_takesTest_49 : decode prog_14_method_31_code 49 = .ok (.iconst 1, 1) := by decide +kernel
theorem d_M_takesTest_50 : decode prog_14_method_31_code 50 = .ok (.iadd, 1) := by decide +kernel
theorem d_M_takesTest_54 : decode prog_14_method_31_code 54 = .ok (.aload_n 0, 1) := by decide +kernel
theorem d_M_takesTest_55 : decode prog_14_method_31_code 55 = .ok (.invokevirtual 272, 3) := by decide +kernel
theorem d_M_takesTest_63 : decode prog_14_method_31_code 63 = .ok (.aload_n 0, 1) := by decide +kernel
theorem d_M_takesTest_64 : decode prog_14_method_31_code 64 = .ok (.sipush 1000, 3) := by decide +kernel
theorem d_M_takesTest_67 : decode prog_14_method_31_code 67 = .ok (.iload_n 1, 1) := by decide +kernel
theorem d_M_takesTest_68 : decode prog_14_method_31_code 68 = .ok (.imul, 1) := by decide +kernel
theorem d_M_takesTest_69 : decode prog_14_method_31_code 69 = .ok (.bipush 100, 2) := by decide +kernel
theorem d_M_takesTest_71 : decode prog_14_method_31_code 71 = .ok (.iload_n 2, 1) := by decide +kernel
theorem d_M_takesTest_72 : decode prog_14_method_31_code 72 = .ok (.bipush 60, 2) := by decide +kernel
theorem d_M_takesTest_74 : decode prog_14_method_31_code 74 = .ok (.isub, 1) := by decide +kernel
theorem d_M_takesTest_75 : decode prog_14_method_31_code 75 = .ok (.imul, 1) := by decide +kernel
theorem d_M_takesTest_76 : decode prog_14_method_31_code 76 = .ok (.iadd, 1) := by decide +kernel
theorem d_M_takesTest_77 : decode prog_14_method_31_code 77 = .ok (.aload_n 0, 1) := by decide +kernel
theorem d_M_takesTest_81 : decode prog_14_method_31_code 81 = .ok (.iadd, 1) := by decide +kernel
theorem d_M_takesTest_82 : decode prog_14_method_31_code 82 = .ok (.invokevirtual 265, 3) := by decide +kernel
theorem d_M_takesTest_85 : decode prog_14_method_31_code 85 = .ok (.aload_n 0, 1) := by decide +kernel
theorem d_M_takesTest_86 : decode prog_14_method_31_code 86 = .ok (.invokevirtual 275, 3) := by decide +kernel
theorem d_M_takesTest_89 : decode prog_14_method_31_code 89 = .ok (.iconst 1, 1) := by decide +kernel
theorem d_M_takesTest_90 : decode prog_14_method_31_code 90 = .ok (.ireturn, 1) := by decide +kernel
theorem d_M_takesTest_78 : decode prog_14_method_31_code 78 = .ok (.getfield 50, 3) := by decide +kernel
theorem d_M_takesTest_61 : decode prog_14_method_31_code 61 = .ok (.iconst 0, 1) := by decide +kernel
theorem d_M_takesTest_62 : decode prog_14_method_31_code 62 = .ok (.ireturn, 1) := by decide +kernel
theorem d_M_takesTest_58 : decode prog_14_method_31_code 58 = .ok (.ifCond .ne 5, 3) := by decide +kernel
theorem d_M_takesTest_46 : decode prog_14_method_31_code 46 = .ok (.getfield 47, 3) := by decide +kernel
theorem d_M_takesTest_42 : decode prog_14_method_31_code 42 = .ok (.iconst 0, 1) := by decide +kernel
theorem d_M_takesTest_43 : decode prog_14_method_31_code 43 = .ok (.ireturn, 1) := by decide +kernel
theorem d_M_takesTest_39 : decode prog_14_method_31_code 39 = .ok (.ifCond .ne 5, 3) := by decide +kernel
theorem d_M_takesTest_17 : decode prog_14_method_31_code 17 = .ok (.getfield 47, 3) := by decide +kernel
theorem d_M_takesTest_13 : decode prog_14_method_31_code 13 = .ok (.iconst 0, 1) := by decide +kernel
theorem d_M_takesTest_14 : decode prog_14_method_31_code 14 = .ok (.ireturn, 1) := by decide +kernel
theorem d_M_takesTest_10 : decode prog_14_method_31_code 10 = .ok (.ifCond .ge 5, 3) := by decide +kernel
theorem d_M_takesTest_22 : decode prog_14_method_31_code 22 = .ok (.putfield 47, 3) := by decide +kernel
theorem d_M_takesTest_51 : decode prog_14_method_31_code 51 = .ok (.putfield 47, 3) := by decide +kernel
set_option maxRecDepth 10000 in
set_option maxHeartbeats 4000000 in
theorem w_M_takesTest {q : QT} {z : ZT} {μ : Mm} {ν : Ml} (C : Ctx sdM q z prog_14_method_31_code "BesideTomModel" 3 3 (some (FieldType.boolean))) : R sdM q z 3 (φIm ν) (F_M_takesTest μ) μ ν 0 [(0, .ref (q.2.2.1 0))] [] := by
  unfold F_M_takesTest
  refine R_aload_n C 0 d_M_takesTest_0 rfl rfl ?_
  refine R_aload_n C 0 d_M_takesTest_1 rfl rfl ?_
  refine R_bind (fun v1 h2 => ?_)
  refine R_callV C mm_0 (mc_0 q _ _) rfl cf_M_next rfl ml_M_255 im_M_next sl_M_M_next_M_next (c_M_next (gk C) h2) (by decide) (by decide) rfl rfl (Nat.le_of_ble_eq_true rfl) d_M_takesTest_2 ?_
  refine R_bind (fun v3 h4 => ?_)
  refine R_callV C mm_0 (mc_0 q _ _) rfl cf_M_place rfl ml_M_269 im_M_place sl_M_M_place_M_place (c_M_place (gk C) h4) (by decide) (by decide) rfl rfl (Nat.le_of_ble_eq_true rfl) d_M_takesTest_5 ?_
  refine R_istore_n C (lv' := [(1, .int v3), (0, .ref (q.2.2.1 0))]) d_M_takesTest_8 rfl (by decide) rfl ?_
  refine R_iload_n C 0 d_M_takesTest_9 rfl rfl ?_
  refine R_if_ge C d_M_takesTest_10 (tgt := 15) (by decide) ?_ ?_
  · skip
    refine R_aload_n C 1 d_M_takesTest_15 rfl rfl ?_
    refine R_dup C d_M_takesTest_16 rfl ?_
    refine gf_M_at C fl_M_47 d_M_takesTest_17 ?_
    refine R_iconst C d_M_takesTest_20 (v := 1) (by decide +kernel) ?_
    refine R_iadd C d_M_takesTest_21 ?_
    refine pf_M_at C fl_M_47 d_M_takesTest_22 (fun μ5 => ?_)
    refine R_aload_n C 1 d_M_takesTest_25 rfl rfl ?_
    refine R_bind (fun v6 h7 => ?_)
    refine R_callV C mm_0 (mc_0 q _ _) rfl cf_M_next rfl ml_M_255 im_M_next sl_M_M_next_M_next (c_M_next (gk C) h7) (by decide) (by decide) rfl rfl (Nat.le_of_ble_eq_true rfl) d_M_takesTest_26 ?_
    refine R_istore_n C (lv' := [(2, .int v6), (1, .int v3), (0, .ref (q.2.2.1 0))]) d_M_takesTest_29 rfl (by decide) rfl ?_
    refine R_aload_n C 2 d_M_takesTest_30 rfl rfl ?_
    refine R_iload_n C 0 d_M_takesTest_31 rfl rfl ?_
    refine R_bipush C d_M_takesTest_32 (v := 60) (by decide +kernel) ?_
    refine R_bipush C d_M_takesTest_34 (v := 62) (by decide +kernel) ?_
    refine R_bind (fun v8 h9 => ?_)
    refine R_callV C mm_0 (mc_0 q _ _) rfl cf_M_in rfl ml_M_225 im_M_in sl_M_M_in_M_in (c_M_in (gk C) h9) (by decide) (by decide) rfl rfl (Nat.le_of_ble_eq_true rfl) d_M_takesTest_36 ?_
    refine R_if_ne C d_M_takesTest_39 (tgt := 44) (by decide) ?_ ?_
    · skip
      refine R_aload_n C 2 d_M_takesTest_44 rfl rfl ?_
      refine R_dup C d_M_takesTest_45 rfl ?_
      refine gf_M_at C fl_M_47 d_M_takesTest_46 ?_
      refine R_iconst C d_M_takesTest_49 (v := 1) (by decide +kernel) ?_
      refine R_iadd C d_M_takesTest_50 ?_
      refine pf_M_at C fl_M_47 d_M_takesTest_51 (fun μ10 => ?_)
      refine R_aload_n C 2 d_M_takesTest_54 rfl rfl ?_
      refine R_bind (fun r_ h13 => ?_)
      obtain ⟨v11, μ12⟩ := r_
      refine R_callV C mm_0 (mc_0 q _ _) rfl cf_M_takesNumber rfl ml_M_272 im_M_takesNumber sl_M_M_takesNumber_M_takesNumber (c_M_takesNumber (gk C) h13) (by decide) (by decide) rfl rfl (Nat.le_of_ble_eq_true rfl) d_M_takesTest_55 ?_
      refine R_if_ne C d_M_takesTest_58 (tgt := 63) (by decide) ?_ ?_
      · skip
        refine R_aload_n C 2 d_M_takesTest_63 rfl rfl ?_
        refine R_sipush C d_M_takesTest_64 (v := 1000) (by decide +kernel) ?_
        refine R_iload_n C 1 d_M_takesTest_67 rfl rfl ?_
        refine R_imul C d_M_takesTest_68 ?_
        refine R_bipush C d_M_takesTest_69 (v := 100) (by decide +kernel) ?_
        refine R_iload_n C 0 d_M_takesTest_71 rfl rfl ?_
        refine R_bipush C d_M_takesTest_72 (v := 60) (by decide +kernel) ?_
        refine R_isub C d_M_takesTest_74 ?_
        refine R_imul C d_M_takesTest_75 ?_
        refine R_iadd C d_M_takesTest_76 ?_
        refine R_aload_n C 2 d_M_takesTest_77 rfl rfl ?_
        refine gf_M_digits C fl_M_50 d_M_takesTest_78 ?_
        refine R_iadd C d_M_takesTest_81 ?_
        refine R_bind (fun μ14 h15 => ?_)
        refine R_callV C mm_0 (mc_0 q _ _) rfl cf_M_emits rfl ml_M_265 im_M_emits sl_M_M_emits_M_emits (c_M_emits (gk C) h15) (by decide) (by decide) rfl rfl (Nat.le_of_ble_eq_true rfl) d_M_takesTest_82 ?_
        refine R_aload_n C 2 d_M_takesTest_85 rfl rfl ?_
        refine R_bind (fun μ16 h17 => ?_)
        refine R_callV C mm_0 (mc_0 q _ _) rfl cf_M_whole rfl ml_M_275 im_M_whole sl_M_M_whole_M_whole (c_M_whole (gk C) h17) (by decide) (by decide) rfl rfl (Nat.le_of_ble_eq_true rfl) d_M_takesTest_86 ?_
        refine R_iconst C d_M_takesTest_89 (v := 1) (by decide +kernel) ?_
        exact R_zret C (by decide) rfl d_M_takesTest_90
      · skip
        refine R_iconst C d_M_takesTest_61 (v := 0) (by decide +kernel) ?_
        exact R_zret C (by decide) rfl d_M_takesTest_62
    · skip
      refine R_iconst C d_M_takesTest_42 (v := 0) (by decide +kernel) ?_
      exact R_zret C (by decide) rfl d_M_takesTest_43
  · skip
    refine R_iconst C d_M_takesTest_13 (v := 0) (by decide +kernel) ?_
    exact R_zret C (by decide) rfl d_M_takesTest_14
theorem c_M_takesTest {q : QT} (hg : GOk sdM q) {μ : Mm} {ν : Ml} {o : Int32 × Mm} (ho : F_M_takesTest μ = some o) : Ct sdM q y_M_takesTest prog_14_method_31_code 3 (some (FieldType.boolean)) 3 [.ref (q.2.2.1 0)] μ ν ((φIm ν) o).1 ((φIm ν) o).2.1 ((φIm ν) o).2.2 := Ct_of rfl hg (fun z C => w_M_takesTest C) (Nat.le_of_ble_eq_true rfl) ho
def F_M_voice (a1 : Int32) (μ : Mm) : Option (Int32 × Mm) := (F_M_beside a1 μ).bind fun v1 => (F_M_many v1).bind fun v3 => (rdI (μ 6) 6 a1).bind fun v5 => (F_M_mouth a1 v5 μ).bind fun p_ => match p_ with | (v6, μ7) => (rdI (μ7 4) 6 a1).bind fun v9 => (if v9 = 1 then (if v3 ≤ 0 then some (((v6 * v3) + 0), μ7) else (rdI (μ7 5) 6 a1).bind fun v10 => some (((v6 * v3) + v10), μ7)) else if v9 = 2 then some (((v6 * v3) / 2), μ7) else if v9 = 3 then some ((v6 * v3), μ7) else if v9 = 4 then (if v3 ≤ 0 then some ((((v6 * v3) + 0) + v6), μ7) else (rdI (μ7 5) 6 a1).bind fun v11 => some ((((v6 * v3) + v11) + v6), μ7)) else if v9 = 5 then some (0, μ7) else if v9 = 6 then (rdI (μ7 8) 24 ((4 * a1) + ((μ7 0 3) - (μ7 0 3) / 4 * 4))).bind fun v12 => some (((v6 * v3) + v12), μ7) else some ((v6 * v3), μ7))
theorem d_M_voice_0 : decode prog_14_method_47_code 0 = .ok (.aload_n 0, 1) := by decide +kernel
theorem d_M_voice_1 : decode prog_14_method_47_code 1 = .ok (.aload_n 0, 1) := by decide +kernel
theorem d_M_voice_2 : decode prog_14_method_47_code 2 = .ok (.iload_n 1, 1) := by decide +kernel
theorem d_M_voice_3 : decode prog_14_method_47_code 3 = .ok (.invokevirtual 325, 3) := by decide +kernel
theorem d_M_voice_6 : decode prog_14_method_47_code 6 = .ok (.invokevirtual 328, 3) := by decide +kernel
theorem d_M_voice_9 : decode prog_14_method_47_code 9 = .ok (.istore_n 2, 1) := by decide +kernel
theorem d_M_voice_10 : decode prog_14_method_47_code 10 = .ok (.aload_n 0, 1) := by decide +kernel
theorem d_M_voice_11 : decode prog_14_method_47_code 11 = .ok (.iload_n 1, 1) := by decide +kernel
theorem d_M_voice_12 : decode prog_14_method_47_code 12 = .ok (.aload_n 0, 1) := by decide +kernel
theorem d_M_voice_16 : decode prog_14_method_47_code 16 = .ok (.iload_n 1, 1) := by decide +kernel
theorem d_M_voice_18 : decode prog_14_method_47_code 18 = .ok (.invokevirtual 331, 3) := by decide +kernel
theorem d_M_voice_21 : decode prog_14_method_47_code 21 = .ok (.istore_n 3, 1) := by decide +kernel
theorem d_M_voice_22 : decode prog_14_method_47_code 22 = .ok (.aload_n 0, 1) := by decide +kernel
theorem d_M_voice_26 : decode prog_14_method_47_code 26 = .ok (.iload_n 1, 1) := by decide +kernel
theorem d_M_voice_28 : decode prog_14_method_47_code 28 = .ok (.tableswitch 108 1 6 #[40, 59, 108, 65, 86, 88], 40) := by decide +kernel
theorem d_M_voice_68 : decode prog_14_method_47_code 68 = .ok (.iload_n 3, 1) := by decide +kernel
theorem d_M_voice_69 : decode prog_14_method_47_code 69 = .ok (.iload_n 2, 1) := by decide +kernel
theorem d_M_voice_70 : decode prog_14_method_47_code 70 = .ok (.imul, 1) := by decide +kernel
theorem d_M_voice_71 : decode prog_14_method_47_code 71 = .ok (.iload_n 2, 1) := by decide +kernel
theorem d_M_voice_84 : decode prog_14_method_47_code 84 = .ok (.iconst 0, 1) := by decide +kernel
theorem d_M_voice_85 : decode prog_14_method_47_code 85 = .ok (.iadd, 1) := by decide +kernel
theorem d_M_voice_86 : decode prog_14_method_47_code 86 = .ok (.ireturn, 1) := by decide +kernel
theorem d_M_voice_75 : decode prog_14_method_47_code 75 = .ok (.aload_n 0, 1) := by decide +kernel
theorem d_M_voice_79 : decode prog_14_method_47_code 79 = .ok (.iload_n 1, 1) := by decide +kernel
theorem d_M_voice_81 : decode prog_14_method_47_code 81 = .ok (.goto 4, 3) := by decide +kernel
theorem d_M_voice_76 : decode prog_14_method_47_code 76 = .ok (.getfield 26, 3) := by decide +kernel
theorem d_M_voice_72 : decode prog_14_method_47_code 72 = .ok (.ifCond .le 12, 3) := by decide +kernel
theorem d_M_voice_87 : decode prog_14_method_47_code 87 = .ok (.iload_n 3, 1) := by decide +kernel
theorem d_M_voice_88 : decode prog_14_method_47_code 88 = .ok (.iload_n 2, 1) := by decide +kernel
theorem d_M_voice_89 : decode prog_14_method_47_code 89 = .ok (.imul, 1) := by decide +kernel
theorem d_M_voice_90 : decode prog_14_method_47_code 90 = .ok (.iconst 2, 1) := by decide +kernel
theorem d_M_voice_92 : decode prog_14_method_47_code 92 = .ok (.ireturn, 1) := by decide +kernel
theorem d_M_voice_91 : decode prog_14_method_47_code 91 = .ok (.idiv, 1) := by decide +kernel
theorem d_M_voice_136 : decode prog_14_method_47_code 136 = .ok (.iload_n 3, 1) := by decide +kernel
theorem d_M_voice_137 : decode prog_14_method_47_code 137 = .ok (.iload_n 2, 1) := by decide +kernel
theorem d_M_voice_138 : decode prog_14_method_47_code 138 = .ok (.imul, 1) := by decide +kernel
theorem d_M_voice_139 : decode prog_14_method_47_code 139 = .ok (.ireturn, 1) := by decide +kernel
theorem d_M_voice_93 : decode prog_14_method_47_code 93 = .ok (.iload_n 3, 1) := by decide +kernel
theorem d_M_voice_94 : decode prog_14_method_47_code 94 = .ok (.iload_n 2, 1) := by decide +kernel
theorem d_M_voice_95 : decode prog_14_method_47_code 95 = .ok (.imul, 1) := by decide +kernel
theorem d_M_voice_96 : decode prog_14_method_47_code 96 = .ok (.iload_n 2, 1) := by decide +kernel
theorem d_M_voice_109 : decode prog_14_method_47_code 109 = .ok (.iconst 0, 1) := by decide +kernel
theorem d_M_voice_110 : decode prog_14_method_47_code 110 = .ok (.iadd, 1) := by decide +kernel
theorem d_M_voice_111 : decode prog_14_method_47_code 111 = .ok (.iload_n 3, 1) := by decide +kernel
theorem d_M_voice_112 : decode prog_14_method_47_code 112 = .ok (.iadd, 1) := by decide +kernel
theorem d_M_voice_113 : decode prog_14_method_47_code 113 = .ok (.ireturn, 1) := by decide +kernel
theorem d_M_voice_100 : decode prog_14_method_47_code 100 = .ok (.aload_n 0, 1) := by decide +kernel
theorem d_M_voice_104 : decode prog_14_method_47_code 104 = .ok (.iload_n 1, 1) := by decide +kernel
theorem d_M_voice_106 : decode prog_14_method_47_code 106 = .ok (.goto 4, 3) := by decide +kernel
theorem d_M_voice_101 : decode prog_14_method_47_code 101 = .ok (.getfield 26, 3) := by decide +kernel
theorem d_M_voice_97 : decode prog_14_method_47_code 97 = .ok (.ifCond .le 12, 3) := by decide +kernel
theorem d_M_voice_114 : decode prog_14_method_47_code 114 = .ok (.iconst 0, 1) := by decide +kernel
theorem d_M_voice_115 : decode prog_14_method_47_code 115 = .ok (.ireturn, 1) := by decide +kernel
theorem d_M_voice_116 : decode prog_14_method_47_code 116 = .ok (.iload_n 3, 1) := by decide +kernel
theorem d_M_voice_117 : decode prog_14_method_47_code 117 = .ok (.iload_n 2, 1) := by decide +kernel
theorem d_M_voice_118 : decode prog_14_method_47_code 118 = .ok (.imul, 1) := by decide +kernel
theorem d_M_voice_119 : decode prog_14_method_47_code 119 = .ok (.aload_n 0, 1) := by decide +kernel
theorem d_M_voice_123 : decode prog_14_method_47_code 123 = .ok (.iconst 4, 1) := by decide +kernel
theorem d_M_voice_124 : decode prog_14_method_47_code 124 = .ok (.iload_n 1, 1) := by decide +kernel
theorem d_M_voice_125 : decode prog_14_method_47_code 125 = .ok (.imul, 1) := by decide +kernel
theorem d_M_voice_126 : decode prog_14_method_47_code 126 = .ok (.aload_n 0, 1) := by decide +kernel
theorem d_M_voice_130 : decode prog_14_method_47_code 130 = .ok (.iconst 4, 1) := by decide +kernel
theorem d_M_voice_132 : decode prog_14_method_47_code 132 = .ok (.iadd, 1) := by decide +kernel
theorem d_M_voice_134 : decode prog_14_method_47_code 134 = .ok (.iadd, 1) := by decide +kernel
theorem d_M_voice_135 : decode prog_14_method_47_code 135 = .ok (.ireturn, 1) := by decide +kernel
theorem d_M_voice_131 : decode prog_14_method_47_code 131 = .ok (.irem, 1) := by decide +kernel
theorem d_M_voice_127 : decode prog_14_method_47_code 127 = .ok (.getfield 19, 3) := by decide +kernel
theorem d_M_voice_120 : decode prog_14_method_47_code 120 = .ok (.getfield 35, 3) := by decide +kernel
theorem d_M_voice_23 : decode prog_14_method_47_code 23 = .ok (.getfield 22, 3) := by decide +kernel
theorem d_M_voice_13 : decode prog_14_method_47_code 13 = .ok (.getfield 29, 3) := by decide +kernel
theorem d_M_voice_17 : decode prog_14_method_47_code 17 = .ok (.iaload, 1) := by decide +kernel
theorem d_M_voice_27 : decode prog_14_method_47_code 27 = .ok (.iaload, 1) := by decide +kernel
theorem d_M_voice_80 : decode prog_14_method_47_code 80 = .ok (.iaload, 1) := by decide +kernel
theorem d_M_voice_105 : decode prog_14_method_47_code 105 = .ok (.iaload, 1) := by decide +kernel
theorem d_M_voice_133 : decode prog_14_method_47_code 133 = .ok (.iaload, 1) := by decide +kernel
set_option maxRecDepth 10000 in
set_option maxHeartbeats 4000000 in
theorem w_M_voice {q : QT} {z : ZT} {a1 : Int32} {μ : Mm} {ν : Ml} (C : Ctx sdM q z prog_14_method_47_code "BesideTomModel" 4 3 (some (FieldType.int))) : R sdM q z 4 (φIm ν) (F_M_voice a1 μ) μ ν 0 [(0, .ref (q.2.2.1 0)), (1, .int a1)] [] := by
  unfold F_M_voice
  refine R_aload_n C 0 d_M_voice_0 rfl rfl ?_
  refine R_aload_n C 0 d_M_voice_1 rfl rfl ?_
  refine R_iload_n C 1 d_M_voice_2 rfl rfl ?_
  refine R_bind (fun v1 h2 => ?_)
  refine R_callV C mm_0 (mc_0 q _ _) rfl cf_M_beside rfl ml_M_325 im_M_beside sl_M_M_beside_M_beside (c_M_beside (gk C) h2) (by decide) (by decide) rfl rfl (Nat.le_of_ble_eq_true rfl) d_M_voice_3 ?_
  refine R_bind (fun v3 h4 => ?_)
  refine R_callV C mm_0 (mc_0 q _ _) rfl cf_M_many rfl ml_M_328 im_M_many sl_M_M_many_M_many (c_M_many (gk C) h4) (by decide) (by decide) rfl rfl (Nat.le_of_ble_eq_true rfl) d_M_voice_6 ?_
  refine R_istore_n C (lv' := [(2, .int v3), (0, .ref (q.2.2.1 0)), (1, .int a1)]) d_M_voice_9 rfl (by decide) rfl ?_
  refine R_aload_n C 1 d_M_voice_10 rfl rfl ?_
  refine R_iload_n C 2 d_M_voice_11 rfl rfl ?_
  refine R_aload_n C 1 d_M_voice_12 rfl rfl ?_
  refine gf_M_desk C fl_M_29 d_M_voice_13 ?_
  refine R_iload_n C 2 d_M_voice_16 rfl rfl ?_
  refine R_iald C mm_6 (mc_6 q _ _) d_M_voice_17 (fun v5 => ?_)
  refine R_bind (fun r_ h8 => ?_)
  obtain ⟨v6, μ7⟩ := r_
  refine R_callV C mm_0 (mc_0 q _ _) rfl cf_M_mouth rfl ml_M_331 im_M_mouth sl_M_M_mouth_M_mouth (c_M_mouth (gk C) h8) (by decide) (by decide) rfl rfl (Nat.le_of_ble_eq_true rfl) d_M_voice_18 ?_
  refine R_istore_n C (lv' := [(3, .int v6), (2, .int v3), (0, .ref (q.2.2.1 0)), (1, .int a1)]) d_M_voice_21 rfl (by decide) rfl ?_
  refine R_aload_n C 2 d_M_voice_22 rfl rfl ?_
  refine gf_M_kind C fl_M_22 d_M_voice_23 ?_
  refine R_iload_n C 3 d_M_voice_26 rfl rfl ?_
  refine R_iald C mm_4 (mc_4 q _ _) d_M_voice_27 (fun v9 => ?_)
  refine R_ite (fun e13 => ?_) (fun e13 => ?_)
  · refine R_tsw C e13 d_M_voice_28 (tgt := 68) (by decide +kernel) (by decide +kernel) rfl (by decide) ?_
    refine R_iload_n C 0 d_M_voice_68 rfl rfl ?_
    refine R_iload_n C 1 d_M_voice_69 rfl rfl ?_
    refine R_imul C d_M_voice_70 ?_
    refine R_iload_n C 1 d_M_voice_71 rfl rfl ?_
    refine R_if_le C d_M_voice_72 (tgt := 84) (by decide) ?_ ?_
    · skip
      refine R_iconst C d_M_voice_84 (v := 0) (by decide +kernel) ?_
      refine R_iadd C d_M_voice_85 ?_
      exact R_iret C rfl d_M_voice_86
    · skip
      refine R_aload_n C 2 d_M_voice_75 rfl rfl ?_
      refine gf_M_v C fl_M_26 d_M_voice_76 ?_
      refine R_iload_n C 3 d_M_voice_79 rfl rfl ?_
      refine R_iald C mm_5 (mc_5 q _ _) d_M_voice_80 (fun v10 => ?_)
      refine R_goto C d_M_voice_81 (tgt := 85) (by decide) ?_
      refine R_iadd C d_M_voice_85 ?_
      exact R_iret C rfl d_M_voice_86
  refine R_ite (fun e14 => ?_) (fun e14 => ?_)
  · refine R_tsw C e14 d_M_voice_28 (tgt := 87) (by decide +kernel) (by decide +kernel) rfl (by decide) ?_
    refine R_iload_n C 0 d_M_voice_87 rfl rfl ?_
    refine R_iload_n C 1 d_M_voice_88 rfl rfl ?_
    refine R_imul C d_M_voice_89 ?_
    refine R_iconst C d_M_voice_90 (v := 2) (by decide +kernel) ?_
    refine R_idiv C d_M_voice_91 (by decide) ?_
    exact R_iret C rfl d_M_voice_92
  refine R_ite (fun e15 => ?_) (fun e15 => ?_)
  · refine R_tsw C e15 d_M_voice_28 (tgt := 136) (by decide +kernel) (by decide +kernel) rfl (by decide) ?_
    refine R_iload_n C 0 d_M_voice_136 rfl rfl ?_
    refine R_iload_n C 1 d_M_voice_137 rfl rfl ?_
    refine R_imul C d_M_voice_138 ?_
    exact R_iret C rfl d_M_voice_139
  refine R_ite (fun e16 => ?_) (fun e16 => ?_)
  · refine R_tsw C e16 d_M_voice_28 (tgt := 93) (by decide +kernel) (by decide +kernel) rfl (by decide) ?_
    refine R_iload_n C 0 d_M_voice_93 rfl rfl ?_
    refine R_iload_n C 1 d_M_voice_94 rfl rfl ?_
    refine R_imul C d_M_voice_95 ?_
    refine R_iload_n C 1 d_M_voice_96 rfl rfl ?_
    refine R_if_le C d_M_voice_97 (tgt := 109) (by decide) ?_ ?_
    · skip
      refine R_iconst C d_M_voice_109 (v := 0) (by decide +kernel) ?_
      refine R_iadd C d_M_voice_110 ?_
      refine R_iload_n C 0 d_M_voice_111 rfl rfl ?_
      refine R_iadd C d_M_voice_112 ?_
      exact R_iret C rfl d_M_voice_113
    · skip
      refine R_aload_n C 2 d_M_voice_100 rfl rfl ?_
      refine gf_M_v C fl_M_26 d_M_voice_101 ?_
      refine R_iload_n C 3 d_M_voice_104 rfl rfl ?_
      refine R_iald C mm_5 (mc_5 q _ _) d_M_voice_105 (fun v11 => ?_)
      refine R_goto C d_M_voice_106 (tgt := 110) (by decide) ?_
      refine R_iadd C d_M_voice_110 ?_
      refine R_iload_n C 0 d_M_voice_111 rfl rfl ?_
      refine R_iadd C d_M_voice_112 ?_
      exact R_iret C rfl d_M_voice_113
  refine R_ite (fun e17 => ?_) (fun e17 => ?_)
  · refine R_tsw C e17 d_M_voice_28 (tgt := 114) (by decide +kernel) (by decide +kernel) rfl (by decide) ?_
    refine R_iconst C d_M_voice_114 (v := 0) (by decide +kernel) ?_
    exact R_iret C rfl d_M_voice_115
  refine R_ite (fun e18 => ?_) (fun e18 => ?_)
  · refine R_tsw C e18 d_M_voice_28 (tgt := 116) (by decide +kernel) (by decide +kernel) rfl (by decide) ?_
    refine R_iload_n C 0 d_M_voice_116 rfl rfl ?_
    refine R_iload_n C 1 d_M_voice_117 rfl rfl ?_
    refine R_imul C d_M_voice_118 ?_
    refine R_aload_n C 2 d_M_voice_119 rfl rfl ?_
    refine gf_M_lines C fl_M_35 d_M_voice_120 ?_
    refine R_iconst C d_M_voice_123 (v := 4) (by decide +kernel) ?_
    refine R_iload_n C 3 d_M_voice_124 rfl rfl ?_
    refine R_imul C d_M_voice_125 ?_
    refine R_aload_n C 2 d_M_voice_126 rfl rfl ?_
    refine gf_M_weeks C fl_M_19 d_M_voice_127 ?_
    refine R_iconst C d_M_voice_130 (v := 4) (by decide +kernel) ?_
    refine R_irem C d_M_voice_131 (by decide) ?_
    refine R_iadd C d_M_voice_132 ?_
    refine R_iald C mm_8 (mc_8 q _ _) d_M_voice_133 (fun v12 => ?_)
    refine R_iadd C d_M_voice_134 ?_
    exact R_iret C rfl d_M_voice_135
  refine R_tswd C d_M_voice_28 (tgt := 136) (sw_out (L := [1, 2, 3, 4, 5, 6]) (n := 6) (by decide +kernel) (by decide +kernel) (List.forall_mem_cons.mpr ⟨e13, List.forall_mem_cons.mpr ⟨e14, List.forall_mem_cons.mpr ⟨e15, List.forall_mem_cons.mpr ⟨e16, List.forall_mem_cons.mpr ⟨e17, List.forall_mem_cons.mpr ⟨e18, fun _ h => absurd h List.not_mem_nil⟩⟩⟩⟩⟩⟩)) (by decide) ?_
  refine R_iload_n C 0 d_M_voice_136 rfl rfl ?_
  refine R_iload_n C 1 d_M_voice_137 rfl rfl ?_
  refine R_imul C d_M_voice_138 ?_
  exact R_iret C rfl d_M_voice_139
theorem c_M_voice {q : QT} (hg : GOk sdM q) {a1 : Int32} {μ : Mm} {ν : Ml} {o : Int32 × Mm} (ho : F_M_voice a1 μ = some o) : Ct sdM q y_M_voice prog_14_method_47_code 4 (some (FieldType.int)) 3 [.ref (q.2.2.1 0), .int a1] μ ν ((φIm ν) o).1 ((φIm ν) o).2.1 ((φIm ν) o).2.2 := Ct_of rfl hg (fun z C => w_M_voice C) (Nat.le_of_ble_eq_true rfl) ho
def L_M_takesE_22 (f5 : Int32) (k : Mm → Option (Int32 × Mm)) : Nat → Int32 → Mm → Option (Int32 × Mm)
  | 0, _, _ => none
  | n + 1, s4, μ6 => (F_M_next μ6).bind fun v7 => (if s4 = 0 then jn (α := Unit) (fun K22 => (if v7 = 38 then K22 () else (if v7 = 124 then K22 () else (F_M_settle 124 μ6).bind fun μ9 => (wrI μ9 19 60 f5 (μ9 0 22)).bind fun μ11 => (if (μ11 0 23) = 0 then some (1, μ11) else (if v7 = 41 then lt_ (up2 μ11 0 23 ((μ11 0 23) - 1)) fun μ12 => lt_ (up2 μ12 0 24 ((μ12 0 24) - 1)) fun μ13 => lt_ (up2 μ13 0 12 ((μ13 0 12) + 1)) fun μ14 => (F_M_whole μ14).bind fun μ15 => L_M_takesE_22 f5 k n s4 μ15 else k μ11))))) (fun (_ : Unit) => (F_M_settle v7 μ6).bind fun μ17 => (wrI μ17 21 101 (μ17 0 23) v7).bind fun μ19 => lt_ (up2 μ19 0 23 ((μ19 0 23) + 1)) fun μ20 => lt_ (up2 μ20 0 12 ((μ20 0 12) + 1)) fun μ21 => L_M_takesE_22 f5 k n 1 μ21) else jn (α := Unit) (fun K30 => (if v7 = 33 then K30 () else (if v7 = 40 then K30 () else (F_M_takesTest μ6).bind fun p_ => match p_ with | (v23, μ24) => (if v23 = 0 then some (0, μ24) else L_M_takesE_22 f5 k n 0 μ24)))) (fun (_ : Unit) => (if (μ6 0 24) = 4 then some (0, μ6) else lt_ (up2 μ6 0 24 ((μ6 0 24) + 1)) fun μ26 => (wrI μ26 21 101 (μ26 0 23) v7).bind fun μ27 => lt_ (up2 μ27 0 23 ((μ27 0 23) + 1)) fun μ28 => lt_ (up2 μ28 0 12 ((μ28 0 12) + 1)) fun μ29 => L_M_takesE_22 f5 k n s4 μ29)))
def F_M_takesE (a1 : Int32) (μ : Mm) : Option (Int32 × Mm) := lt_ (up2 μ 0 23 0) fun μ1 => lt_ (up2 μ1 0 24 0) fun μ2 => (wrI μ2 18 60 a1 (μ2 0 22)).bind fun μ3 => L_M_takesE_22 a1 (fun (μ31 : Mm) => some (0, μ31)) fu 1 μ3
theorem d_M_takesE_0 : decode prog_14_method_32_code 0 = .ok (.aload_n 0, 1) := by decide +kernel
theorem d_M_takesE_1 : decode prog_14_method_32_code 1 = .ok (.iconst 0, 1) := by decide +kernel
theorem d_M_takesE_5 : decode prog_14_method_32_code 5 = .ok (.aload_n 0, 1) := by decide +kernel
theorem d_M_takesE_6 : decode prog_14_method_32_code 6 = .ok (.iconst 0, 1) := by decide +kernel
theorem d_M_takesE_10 : decode prog_14_method_32_code 10 = .ok (.aload_n 0, 1) := by decide +kernel
theorem d_M_takesE_14 : decode prog_14_method_32_code 14 = .ok (.iload_n 1, 1) := by decide +kernel
theorem d_M_takesE_15 : decode prog_14_method_32_code 15 = .ok (.aload_n 0, 1) := by decide +kernel
theorem d_M_takesE_20 : decode prog_14_method_32_code 20 = .ok (.iconst 1, 1) := by decide +kernel
theorem d_M_takesE_21 : decode prog_14_method_32_code 21 = .ok (.istore_n 2, 1) := by decide +kernel
theorem d_M_takesE_22 : decode prog_14_method_32_code 22 = .ok (.aload_n 0, 1) := by decide +kernel
theorem d_M_takesE_23 : decode prog_14_method_32_code 23 = .ok (.invokevirtual 255, 3) := by decide +kernel
theorem d_M_takesE_26 : decode prog_14_method_32_code 26 = .ok (.istore_n 3, 1) := by decide +kernel
theorem d_M_takesE_27 : decode prog_14_method_32_code 27 = .ok (.iload_n 2, 1) := by decide +kernel
theorem d_M_takesE_110 : decode prog_14_method_32_code 110 = .ok (.iload_n 3, 1) := by decide +kernel
theorem d_M_takesE_111 : decode prog_14_method_32_code 111 = .ok (.bipush 38, 2) := by decide +kernel
theorem d_M_takesE_116 : decode prog_14_method_32_code 116 = .ok (.iload_n 3, 1) := by decide +kernel
theorem d_M_takesE_117 : decode prog_14_method_32_code 117 = .ok (.bipush 124, 2) := by decide +kernel
theorem d_M_takesE_162 : decode prog_14_method_32_code 162 = .ok (.aload_n 0, 1) := by decide +kernel
theorem d_M_takesE_163 : decode prog_14_method_32_code 163 = .ok (.bipush 124, 2) := by decide +kernel
theorem d_M_takesE_165 : decode prog_14_method_32_code 165 = .ok (.invokevirtual 281, 3) := by decide +kernel
theorem d_M_takesE_168 : decode prog_14_method_32_code 168 = .ok (.aload_n 0, 1) := by decide +kernel
theorem d_M_takesE_172 : decode prog_14_method_32_code 172 = .ok (.iload_n 1, 1) := by decide +kernel
theorem d_M_takesE_173 : decode prog_14_method_32_code 173 = .ok (.aload_n 0, 1) := by decide +kernel
theorem d_M_takesE_178 : decode prog_14_method_32_code 178 = .ok (.aload_n 0, 1) := by decide +kernel
theorem d_M_takesE_187 : decode prog_14_method_32_code 187 = .ok (.iload_n 3, 1) := by decide +kernel
theorem d_M_takesE_188 : decode prog_14_method_32_code 188 = .ok (.bipush 41, 2) := by decide +kernel
theorem d_M_takesE_195 : decode prog_14_method_32_code 195 = .ok (.aload_n 0, 1) := by decide +kernel
theorem d_M_takesE_196 : decode prog_14_method_32_code 196 = .ok (.dup, 1) := by decide +kernel
theorem d_M_takesE_200 : decode prog_14_method_32_code 200 = .ok (.iconst 1, 1) := by decide +kernel
theorem d_M_takesE_201 : decode prog_14_method_32_code 201 = .ok (.isub, 1) := by decide +kernel
theorem d_M_takesE_205 : decode prog_14_method_32_code 205 = .ok (.aload_n 0, 1) := by decide +kernel
theorem d_M_takesE_206 : decode prog_14_method_32_code 206 = .ok (.dup, 1) := by decide +kernel
theorem d_M_takesE_210 : decode prog_14_method_32_code 210 = .ok (.iconst 1, 1) := by decide +kernel
theorem d_M_takesE_211 : decode prog_14_method_32_code 211 = .ok (.isub, 1) := by decide +kernel
theorem d_M_takesE_215 : decode prog_14_method_32_code 215 = .ok (.aload_n 0, 1) := by decide +kernel
theorem d_M_takesE_216 : decode prog_14_method_32_code 216 = .ok (.dup, 1) := by decide +kernel
theorem d_M_takesE_220 : decode prog_14_method_32_code 220 = .ok (.iconst 1, 1) := by decide +kernel
theorem d_M_takesE_221 : decode prog_14_method_32_code 221 = .ok (.iadd, 1) := by decide +kernel
theorem d_M_takesE_225 : decode prog_14_method_32_code 225 = .ok (.aload_n 0, 1) := by decide +kernel
theorem d_M_takesE_226 : decode prog_14_method_32_code 226 = .ok (.invokevirtual 275, 3) := by decide +kernel
theorem d_M_takesE_229 : decode prog_14_method_32_code 229 = .ok (.goto (-207), 3) := by decide +kernel
theorem d_M_takesE_217 : decode prog_14_method_32_code 217 = .ok (.getfield 47, 3) := by decide +kernel
theorem d_M_takesE_207 : decode prog_14_method_32_code 207 = .ok (.getfield 83, 3) := by decide +kernel
theorem d_M_takesE_197 : decode prog_14_method_32_code 197 = .ok (.getfield 80, 3) := by decide +kernel
theorem d_M_takesE_190 : decode prog_14_method_32_code 190 = .ok (.if_icmp .eq 5, 3) := by decide +kernel
theorem d_M_takesE_185 : decode prog_14_method_32_code 185 = .ok (.iconst 1, 1) := by decide +kernel
theorem d_M_takesE_186 : decode prog_14_method_32_code 186 = .ok (.ireturn, 1) := by decide +kernel
theorem d_M_takesE_182 : decode prog_14_method_32_code 182 = .ok (.ifCond .ne 5, 3) := by decide +kernel
theorem d_M_takesE_179 : decode prog_14_method_32_code 179 = .ok (.getfield 80, 3) := by decide +kernel
theorem d_M_takesE_177 : decode prog_14_method_32_code 177 = .ok (.iastore, 1) := by decide +kernel
theorem d_M_takesE_174 : decode prog_14_method_32_code 174 = .ok (.getfield 77, 3) := by decide +kernel
theorem d_M_takesE_169 : decode prog_14_method_32_code 169 = .ok (.getfield 68, 3) := by decide +kernel
theorem d_M_takesE_119 : decode prog_14_method_32_code 119 = .ok (.if_icmp .ne 43, 3) := by decide +kernel
theorem d_M_takesE_113 : decode prog_14_method_32_code 113 = .ok (.if_icmp .eq 9, 3) := by decide +kernel
theorem d_M_takesE_122 : decode prog_14_method_32_code 122 = .ok (.aload_n 0, 1) := by decide +kernel
theorem d_M_takesE_123 : decode prog_14_method_32_code 123 = .ok (.iload_n 3, 1) := by decide +kernel
theorem d_M_takesE_124 : decode prog_14_method_32_code 124 = .ok (.invokevirtual 281, 3) := by decide +kernel
theorem d_M_takesE_127 : decode prog_14_method_32_code 127 = .ok (.aload_n 0, 1) := by decide +kernel
theorem d_M_takesE_131 : decode prog_14_method_32_code 131 = .ok (.aload_n 0, 1) := by decide +kernel
theorem d_M_takesE_135 : decode prog_14_method_32_code 135 = .ok (.iload_n 3, 1) := by decide +kernel
theorem d_M_takesE_137 : decode prog_14_method_32_code 137 = .ok (.aload_n 0, 1) := by decide +kernel
theorem d_M_takesE_138 : decode prog_14_method_32_code 138 = .ok (.dup, 1) := by decide +kernel
theorem d_M_takesE_142 : decode prog_14_method_32_code 142 = .ok (.iconst 1, 1) := by decide +kernel
theorem d_M_takesE_143 : decode prog_14_method_32_code 143 = .ok (.iadd, 1) := by decide +kernel
theorem d_M_takesE_147 : decode prog_14_method_32_code 147 = .ok (.iconst 1, 1) := by decide +kernel
theorem d_M_takesE_148 : decode prog_14_method_32_code 148 = .ok (.istore_n 2, 1) := by decide +kernel
theorem d_M_takesE_149 : decode prog_14_method_32_code 149 = .ok (.aload_n 0, 1) := by decide +kernel
theorem d_M_takesE_150 : decode prog_14_method_32_code 150 = .ok (.dup, 1) := by decide +kernel
theorem d_M_takesE_154 : decode prog_14_method_32_code 154 = .ok (.iconst 1, 1) := by decide +kernel
theorem d_M_takesE_155 : decode prog_14_method_32_code 155 = .ok (.iadd, 1) := by decide +kernel
theorem d_M_takesE_159 : decode prog_14_method_32_code 159 = .ok (.goto (-137), 3) := by decide +kernel
theorem d_M_takesE_151 : decode prog_14_method_32_code 151 = .ok (.getfield 47, 3) := by decide +kernel
theorem d_M_takesE_139 : decode prog_14_method_32_code 139 = .ok (.getfield 80, 3) := by decide +kernel
theorem d_M_takesE_136 : decode prog_14_method_32_code 136 = .ok (.iastore, 1) := by decide +kernel
theorem d_M_takesE_132 : decode prog_14_method_32_code 132 = .ok (.getfield 80, 3) := by decide +kernel
theorem d_M_takesE_128 : decode prog_14_method_32_code 128 = .ok (.getfield 74, 3) := by decide +kernel
theorem d_M_takesE_31 : decode prog_14_method_32_code 31 = .ok (.iload_n 3, 1) := by decide +kernel
theorem d_M_takesE_32 : decode prog_14_method_32_code 32 = .ok (.bipush 33, 2) := by decide +kernel
theorem d_M_takesE_37 : decode prog_14_method_32_code 37 = .ok (.iload_n 3, 1) := by decide +kernel
theorem d_M_takesE_38 : decode prog_14_method_32_code 38 = .ok (.bipush 40, 2) := by decide +kernel
theorem d_M_takesE_96 : decode prog_14_method_32_code 96 = .ok (.aload_n 0, 1) := by decide +kernel
theorem d_M_takesE_97 : decode prog_14_method_32_code 97 = .ok (.invokevirtual 278, 3) := by decide +kernel
theorem d_M_takesE_108 : decode prog_14_method_32_code 108 = .ok (.iconst 0, 1) := by decide +kernel
theorem d_M_takesE_109 : decode prog_14_method_32_code 109 = .ok (.ireturn, 1) := by decide +kernel
theorem d_M_takesE_103 : decode prog_14_method_32_code 103 = .ok (.iconst 0, 1) := by decide +kernel
theorem d_M_takesE_104 : decode prog_14_method_32_code 104 = .ok (.istore_n 2, 1) := by decide +kernel
theorem d_M_takesE_105 : decode prog_14_method_32_code 105 = .ok (.goto (-83), 3) := by decide +kernel
theorem d_M_takesE_100 : decode prog_14_method_32_code 100 = .ok (.ifCond .eq 8, 3) := by decide +kernel
theorem d_M_takesE_40 : decode prog_14_method_32_code 40 = .ok (.if_icmp .ne 56, 3) := by decide +kernel
theorem d_M_takesE_34 : decode prog_14_method_32_code 34 = .ok (.if_icmp .eq 9, 3) := by decide +kernel
theorem d_M_takesE_43 : decode prog_14_method_32_code 43 = .ok (.aload_n 0, 1) := by decide +kernel
theorem d_M_takesE_47 : decode prog_14_method_32_code 47 = .ok (.iconst 4, 1) := by decide +kernel
theorem d_M_takesE_53 : decode prog_14_method_32_code 53 = .ok (.aload_n 0, 1) := by decide +kernel
theorem d_M_takesE_54 : decode prog_14_method_32_code 54 = .ok (.dup, 1) := by decide +kernel
theorem d_M_takesE_58 : decode prog_14_method_32_code 58 = .ok (.iconst 1, 1) := by decide +kernel
theorem d_M_takesE_59 : decode prog_14_method_32_code 59 = .ok (.iadd, 1) := by decide +kernel
theorem d_M_takesE_63 : decode prog_14_method_32_code 63 = .ok (.aload_n 0, 1) := by decide +kernel
theorem d_M_takesE_67 : decode prog_14_method_32_code 67 = .ok (.aload_n 0, 1) := by decide +kernel
theorem d_M_takesE_71 : decode prog_14_method_32_code 71 = .ok (.iload_n 3, 1) := by decide +kernel
theorem d_M_takesE_73 : decode prog_14_method_32_code 73 = .ok (.aload_n 0, 1) := by decide +kernel
theorem d_M_takesE_74 : decode prog_14_method_32_code 74 = .ok (.dup, 1) := by decide +kernel
theorem d_M_takesE_78 : decode prog_14_method_32_code 78 = .ok (.iconst 1, 1) := by decide +kernel
theorem d_M_takesE_79 : decode prog_14_method_32_code 79 = .ok (.iadd, 1) := by decide +kernel
theorem d_M_takesE_83 : decode prog_14_method_32_code 83 = .ok (.aload_n 0, 1) := by decide +kernel
theorem d_M_takesE_84 : decode prog_14_method_32_code 84 = .ok (.dup, 1) := by decide +kernel
theorem d_M_takesE_88 : decode prog_14_method_32_code 88 = .ok (.iconst 1, 1) := by decide +kernel
theorem d_M_takesE_89 : decode prog_14_method_32_code 89 = .ok (.iadd, 1) := by decide +kernel
theorem d_M_takesE_93 : decode prog_14_method_32_code 93 = .ok (.goto (-71), 3) := by decide +kernel
theorem d_M_takesE_85 : decode prog_14_method_32_code 85 = .ok (.getfield 47, 3) := by decide +kernel
theorem d_M_takesE_75 : decode prog_14_method_32_code 75 = .ok (.getfield 80, 3) := by decide +kernel
theorem d_M_takesE_72 : decode prog_14_method_32_code 72 = .ok (.iastore, 1) := by decide +kernel
theorem d_M_takesE_68 : decode prog_14_method_32_code 68 = .ok (.getfield 80, 3) := by decide +kernel
theorem d_M_takesE_64 : decode prog_14_method_32_code 64 = .ok (.getfield 74, 3) := by decide +kernel
theorem d_M_takesE_55 : decode prog_14_method_32_code 55 = .ok (.getfield 83, 3) := by decide +kernel
theorem d_M_takesE_51 : decode prog_14_method_32_code 51 = .ok (.iconst 0, 1) := by decide +kernel
theorem d_M_takesE_52 : decode prog_14_method_32_code 52 = .ok (.ireturn, 1) := by decide +kernel
theorem d_M_takesE_48 : decode prog_14_method_32_code 48 = .ok (.if_icmp .ne 5, 3) := by decide +kernel
theorem d_M_takesE_44 : decode prog_14_method_32_code 44 = .ok (.getfield 83, 3) := by decide +kernel
theorem d_M_takesE_28 : decode prog_14_method_32_code 28 = .ok (.ifCond .eq 82, 3) := by decide +kernel
theorem d_M_takesE_144 : decode prog_14_method_32_code 144 = .ok (.putfield 80, 3) := by decide +kernel
theorem d_M_takesE_156 : decode prog_14_method_32_code 156 = .ok (.putfield 47, 3) := by decide +kernel
theorem d_M_takesE_202 : decode prog_14_method_32_code 202 = .ok (.putfield 80, 3) := by decide +kernel
theorem d_M_takesE_212 : decode prog_14_method_32_code 212 = .ok (.putfield 83, 3) := by decide +kernel
theorem d_M_takesE_222 : decode prog_14_method_32_code 222 = .ok (.putfield 47, 3) := by decide +kernel
theorem d_M_takesE_60 : decode prog_14_method_32_code 60 = .ok (.putfield 83, 3) := by decide +kernel
theorem d_M_takesE_80 : decode prog_14_method_32_code 80 = .ok (.putfield 80, 3) := by decide +kernel
theorem d_M_takesE_90 : decode prog_14_method_32_code 90 = .ok (.putfield 47, 3) := by decide +kernel
set_option maxRecDepth 10000 in
set_option maxHeartbeats 4000000 in
theorem W_M_takesE_22 {q : QT} {z : ZT} {ν : Ml} {f5 : Int32} {k : Mm → Option (Int32 × Mm)} (C : Ctx sdM q z prog_14_method_32_code "BesideTomModel" 4 4 (some (FieldType.boolean))) (hk : ∀ (me_ : Mm), R sdM q z 4 (φIm ν) (k me_) me_ ν 193 [] []) : ∀ (n : Nat) (s4 : Int32) (μ6 : Mm), R sdM q z 4 (φIm ν) (L_M_takesE_22 f5 k n s4 μ6) μ6 ν 22 [(2, .int s4), (0, .ref (q.2.2.1 0)), (1, .int f5)] [] := by
  intro n
  induction n with
  | zero =>
    intros
    exact R_none
  | succ n ih =>
    intro s4 μ6
    rw [L_M_takesE_22]
    refine R_aload_n C 1 d_M_takesE_22 rfl rfl ?_
    refine R_bind (fun v7 h8 => ?_)
    refine R_callV C mm_0 (mc_0 q _ _) rfl cf_M_next rfl ml_M_255 im_M_next sl_M_M_next_M_next (c_M_next (gk C) h8) (by decide) (by decide) rfl rfl (Nat.le_of_ble_eq_true rfl) d_M_takesE_23 ?_
    refine R_istore_n C (lv' := [(3, .int v7), (2, .int s4), (0, .ref (q.2.2.1 0)), (1, .int f5)]) d_M_takesE_26 rfl (by decide) rfl ?_
    refine R_iload_n C 1 d_M_takesE_27 rfl rfl ?_
    refine R_if_eq C d_M_takesE_28 (tgt := 110) (by decide) ?_ ?_
    · skip
      refine R_iload_n C 0 d_M_takesE_110 rfl rfl ?_
      refine R_bipush C d_M_takesE_111 (v := 38) (by decide +kernel) ?_
      refine R_jn (fun K22 => R sdM q z 4 (φIm ν) (K22 ()) μ6 ν 122 [(0, .ref (q.2.2.1 0)), (1, .int f5), (3, .int v7)] []) ?_ (fun K22 hK22 => ?_)
      · skip
        refine R_aload_n C 0 d_M_takesE_122 rfl rfl ?_
        refine R_iload_n C 2 d_M_takesE_123 rfl rfl ?_
        refine R_bind (fun μ17 h18 => ?_)
        refine R_callV C mm_0 (mc_0 q _ _) rfl cf_M_settle rfl ml_M_281 im_M_settle sl_M_M_settle_M_settle (c_M_settle (gk C) h18) (by decide) (by decide) rfl rfl (Nat.le_of_ble_eq_true rfl) d_M_takesE_124 ?_
        refine R_aload_n C 0 d_M_takesE_127 rfl rfl ?_
        refine gf_M_waits C fl_M_74 d_M_takesE_128 ?_
        refine R_aload_n C 0 d_M_takesE_131 rfl rfl ?_
        refine gf_M_waiting C fl_M_80 d_M_takesE_132 ?_
        refine R_iload_n C 2 d_M_takesE_135 rfl rfl ?_
        refine R_iast C mm_21 (fun h => mc_21 q h _) d_M_takesE_136 (fun μ19 => ?_)
        refine R_aload_n C 0 d_M_takesE_137 rfl rfl ?_
        refine R_dup C d_M_takesE_138 rfl ?_
        refine gf_M_waiting C fl_M_80 d_M_takesE_139 ?_
        refine R_iconst C d_M_takesE_142 (v := 1) (by decide +kernel) ?_
        refine R_iadd C d_M_takesE_143 ?_
        refine pf_M_waiting C fl_M_80 d_M_takesE_144 (fun μ20 => ?_)
        refine R_iconst C d_M_takesE_147 (v := 1) (by decide +kernel) ?_
        refine R_istore_n C (lv' := [(2, .int 1), (0, .ref (q.2.2.1 0)), (1, .int f5), (3, .int v7)]) d_M_takesE_148 rfl (by decide) rfl ?_
        refine R_aload_n C 1 d_M_takesE_149 rfl rfl ?_
        refine R_dup C d_M_takesE_150 rfl ?_
        refine gf_M_at C fl_M_47 d_M_takesE_151 ?_
        refine R_iconst C d_M_takesE_154 (v := 1) (by decide +kernel) ?_
        refine R_iadd C d_M_takesE_155 ?_
        refine pf_M_at C fl_M_47 d_M_takesE_156 (fun μ21 => ?_)
        refine R_goto C d_M_takesE_159 (tgt := 22) (by decide) ?_
        exact R_sub [0, 1, 2] rfl (ih 1 μ21)
      · skip
        refine R_icmp_eq C d_M_takesE_113 (tgt := 122) (by decide) ?_ ?_
        · skip
          exact R_sub [2, 3, 0] rfl (hK22)
        · skip
          refine R_iload_n C 0 d_M_takesE_116 rfl rfl ?_
          refine R_bipush C d_M_takesE_117 (v := 124) (by decide +kernel) ?_
          refine R_icmp_ne C d_M_takesE_119 (tgt := 162) (by decide) ?_ ?_
          · skip
            refine R_aload_n C 2 d_M_takesE_162 rfl rfl ?_
            refine R_bipush C d_M_takesE_163 (v := 124) (by decide +kernel) ?_
            refine R_bind (fun μ9 h10 => ?_)
            refine R_callV C mm_0 (mc_0 q _ _) rfl cf_M_settle rfl ml_M_281 im_M_settle sl_M_M_settle_M_settle (c_M_settle (gk C) h10) (by decide) (by decide) rfl rfl (Nat.le_of_ble_eq_true rfl) d_M_takesE_165 ?_
            refine R_aload_n C 2 d_M_takesE_168 rfl rfl ?_
            refine gf_M_to C fl_M_68 d_M_takesE_169 ?_
            refine R_iload_n C 3 d_M_takesE_172 rfl rfl ?_
            refine R_aload_n C 2 d_M_takesE_173 rfl rfl ?_
            refine gf_M_signs C fl_M_77 d_M_takesE_174 ?_
            refine R_iast C mm_19 (fun h => mc_19 q h _) d_M_takesE_177 (fun μ11 => ?_)
            refine R_aload_n C 2 d_M_takesE_178 rfl rfl ?_
            refine gf_M_waiting C fl_M_80 d_M_takesE_179 ?_
            refine R_if_ne C d_M_takesE_182 (tgt := 187) (by decide) ?_ ?_
            · skip
              refine R_iload_n C 0 d_M_takesE_187 rfl rfl ?_
              refine R_bipush C d_M_takesE_188 (v := 41) (by decide +kernel) ?_
              refine R_icmp_eq C d_M_takesE_190 (tgt := 195) (by decide) ?_ ?_
              · skip
                refine R_aload_n C 2 d_M_takesE_195 rfl rfl ?_
                refine R_dup C d_M_takesE_196 rfl ?_
                refine gf_M_waiting C fl_M_80 d_M_takesE_197 ?_
                refine R_iconst C d_M_takesE_200 (v := 1) (by decide +kernel) ?_
                refine R_isub C d_M_takesE_201 ?_
                refine pf_M_waiting C fl_M_80 d_M_takesE_202 (fun μ12 => ?_)
                refine R_aload_n C 2 d_M_takesE_205 rfl rfl ?_
                refine R_dup C d_M_takesE_206 rfl ?_
                refine gf_M_open C fl_M_83 d_M_takesE_207 ?_
                refine R_iconst C d_M_takesE_210 (v := 1) (by decide +kernel) ?_
                refine R_isub C d_M_takesE_211 ?_
                refine pf_M_open C fl_M_83 d_M_takesE_212 (fun μ13 => ?_)
                refine R_aload_n C 2 d_M_takesE_215 rfl rfl ?_
                refine R_dup C d_M_takesE_216 rfl ?_
                refine gf_M_at C fl_M_47 d_M_takesE_217 ?_
                refine R_iconst C d_M_takesE_220 (v := 1) (by decide +kernel) ?_
                refine R_iadd C d_M_takesE_221 ?_
                refine pf_M_at C fl_M_47 d_M_takesE_222 (fun μ14 => ?_)
                refine R_aload_n C 2 d_M_takesE_225 rfl rfl ?_
                refine R_bind (fun μ15 h16 => ?_)
                refine R_callV C mm_0 (mc_0 q _ _) rfl cf_M_whole rfl ml_M_275 im_M_whole sl_M_M_whole_M_whole (c_M_whole (gk C) h16) (by decide) (by decide) rfl rfl (Nat.le_of_ble_eq_true rfl) d_M_takesE_226 ?_
                refine R_goto C d_M_takesE_229 (tgt := 22) (by decide) ?_
                exact R_sub [1, 2, 3] rfl (ih s4 μ15)
              · skip
                exact R_sub [] rfl (hk μ11)
            · skip
              refine R_iconst C d_M_takesE_185 (v := 1) (by decide +kernel) ?_
              exact R_zret C (by decide) rfl d_M_takesE_186
          · skip
            exact R_sub [2, 3, 0] rfl (hK22)
    · skip
      refine R_iload_n C 0 d_M_takesE_31 rfl rfl ?_
      refine R_bipush C d_M_takesE_32 (v := 33) (by decide +kernel) ?_
      refine R_jn (fun K30 => R sdM q z 4 (φIm ν) (K30 ()) μ6 ν 43 [(0, .ref (q.2.2.1 0)), (1, .int f5), (2, .int s4), (3, .int v7)] []) ?_ (fun K30 hK30 => ?_)
      · skip
        refine R_aload_n C 0 d_M_takesE_43 rfl rfl ?_
        refine gf_M_open C fl_M_83 d_M_takesE_44 ?_
        refine R_iconst C d_M_takesE_47 (v := 4) (by decide +kernel) ?_
        refine R_icmp_ne C d_M_takesE_48 (tgt := 53) (by decide) ?_ ?_
        · skip
          refine R_aload_n C 0 d_M_takesE_53 rfl rfl ?_
          refine R_dup C d_M_takesE_54 rfl ?_
          refine gf_M_open C fl_M_83 d_M_takesE_55 ?_
          refine R_iconst C d_M_takesE_58 (v := 1) (by decide +kernel) ?_
          refine R_iadd C d_M_takesE_59 ?_
          refine pf_M_open C fl_M_83 d_M_takesE_60 (fun μ26 => ?_)
          refine R_aload_n C 0 d_M_takesE_63 rfl rfl ?_
          refine gf_M_waits C fl_M_74 d_M_takesE_64 ?_
          refine R_aload_n C 0 d_M_takesE_67 rfl rfl ?_
          refine gf_M_waiting C fl_M_80 d_M_takesE_68 ?_
          refine R_iload_n C 3 d_M_takesE_71 rfl rfl ?_
          refine R_iast C mm_21 (fun h => mc_21 q h _) d_M_takesE_72 (fun μ27 => ?_)
          refine R_aload_n C 0 d_M_takesE_73 rfl rfl ?_
          refine R_dup C d_M_takesE_74 rfl ?_
          refine gf_M_waiting C fl_M_80 d_M_takesE_75 ?_
          refine R_iconst C d_M_takesE_78 (v := 1) (by decide +kernel) ?_
          refine R_iadd C d_M_takesE_79 ?_
          refine pf_M_waiting C fl_M_80 d_M_takesE_80 (fun μ28 => ?_)
          refine R_aload_n C 0 d_M_takesE_83 rfl rfl ?_
          refine R_dup C d_M_takesE_84 rfl ?_
          refine gf_M_at C fl_M_47 d_M_takesE_85 ?_
          refine R_iconst C d_M_takesE_88 (v := 1) (by decide +kernel) ?_
          refine R_iadd C d_M_takesE_89 ?_
          refine pf_M_at C fl_M_47 d_M_takesE_90 (fun μ29 => ?_)
          refine R_goto C d_M_takesE_93 (tgt := 22) (by decide) ?_
          exact R_sub [2, 0, 1] rfl (ih s4 μ29)
        · skip
          refine R_iconst C d_M_takesE_51 (v := 0) (by decide +kernel) ?_
          exact R_zret C (by decide) rfl d_M_takesE_52
      · skip
        refine R_icmp_eq C d_M_takesE_34 (tgt := 43) (by decide) ?_ ?_
        · skip
          exact R_sub [2, 3, 1, 0] rfl (hK30)
        · skip
          refine R_iload_n C 0 d_M_takesE_37 rfl rfl ?_
          refine R_bipush C d_M_takesE_38 (v := 40) (by decide +kernel) ?_
          refine R_icmp_ne C d_M_takesE_40 (tgt := 96) (by decide) ?_ ?_
          · skip
            refine R_aload_n C 2 d_M_takesE_96 rfl rfl ?_
            refine R_bind (fun r_ h25 => ?_)
            obtain ⟨v23, μ24⟩ := r_
            refine R_callV C mm_0 (mc_0 q _ _) rfl cf_M_takesTest rfl ml_M_278 im_M_takesTest sl_M_M_takesTest_M_takesTest (c_M_takesTest (gk C) h25) (by decide) (by decide) rfl rfl (Nat.le_of_ble_eq_true rfl) d_M_takesE_97 ?_
            refine R_if_eq C d_M_takesE_100 (tgt := 108) (by decide) ?_ ?_
            · skip
              refine R_iconst C d_M_takesE_108 (v := 0) (by decide +kernel) ?_
              exact R_zret C (by decide) rfl d_M_takesE_109
            · skip
              refine R_iconst C d_M_takesE_103 (v := 0) (by decide +kernel) ?_
              refine R_istore_n C (lv' := [(2, .int 0), (3, .int v7), (0, .ref (q.2.2.1 0)), (1, .int f5)]) d_M_takesE_104 rfl (by decide) rfl ?_
              refine R_goto C d_M_takesE_105 (tgt := 22) (by decide) ?_
              exact R_sub [0, 2, 3] rfl (ih 0 μ24)
          · skip
            exact R_sub [2, 3, 1, 0] rfl (hK30)
theorem d_M_takesE_193 : decode prog_14_method_32_code 193 = .ok (.iconst 0, 1) := by decide +kernel
theorem d_M_takesE_194 : decode prog_14_method_32_code 194 = .ok (.ireturn, 1) := by decide +kernel
theorem d_M_takesE_19 : decode prog_14_method_32_code 19 = .ok (.iastore, 1) := by decide +kernel
theorem d_M_takesE_16 : decode prog_14_method_32_code 16 = .ok (.getfield 77, 3) := by decide +kernel
theorem d_M_takesE_11 : decode prog_14_method_32_code 11 = .ok (.getfield 65, 3) := by decide +kernel
theorem d_M_takesE_2 : decode prog_14_method_32_code 2 = .ok (.putfield 80, 3) := by decide +kernel
theorem d_M_takesE_7 : decode prog_14_method_32_code 7 = .ok (.putfield 83, 3) := by decide +kernel
set_option maxRecDepth 10000 in
set_option maxHeartbeats 4000000 in
theorem w_M_takesE {q : QT} {z : ZT} {a1 : Int32} {μ : Mm} {ν : Ml} (C : Ctx sdM q z prog_14_method_32_code "BesideTomModel" 4 4 (some (FieldType.boolean))) : R sdM q z 4 (φIm ν) (F_M_takesE a1 μ) μ ν 0 [(0, .ref (q.2.2.1 0)), (1, .int a1)] [] := by
  unfold F_M_takesE
  refine R_aload_n C 0 d_M_takesE_0 rfl rfl ?_
  refine R_iconst C d_M_takesE_1 (v := 0) (by decide +kernel) ?_
  refine pf_M_waiting C fl_M_80 d_M_takesE_2 (fun μ1 => ?_)
  refine R_aload_n C 0 d_M_takesE_5 rfl rfl ?_
  refine R_iconst C d_M_takesE_6 (v := 0) (by decide +kernel) ?_
  refine pf_M_open C fl_M_83 d_M_takesE_7 (fun μ2 => ?_)
  refine R_aload_n C 0 d_M_takesE_10 rfl rfl ?_
  refine gf_M_from C fl_M_65 d_M_takesE_11 ?_
  refine R_iload_n C 1 d_M_takesE_14 rfl rfl ?_
  refine R_aload_n C 0 d_M_takesE_15 rfl rfl ?_
  refine gf_M_signs C fl_M_77 d_M_takesE_16 ?_
  refine R_iast C mm_18 (fun h => mc_18 q h _) d_M_takesE_19 (fun μ3 => ?_)
  refine R_iconst C d_M_takesE_20 (v := 1) (by decide +kernel) ?_
  refine R_istore_n C (lv' := [(2, .int 1), (0, .ref (q.2.2.1 0)), (1, .int a1)]) d_M_takesE_21 rfl (by decide) rfl ?_
  refine R_sub [0, 1, 2] rfl ?_
  refine W_M_takesE_22 C ?_ fu _ _
  intro μ31
  refine R_iconst C d_M_takesE_193 (v := 0) (by decide +kernel) ?_
  exact R_zret C (by decide) rfl d_M_takesE_194
theorem c_M_takesE {q : QT} (hg : GOk sdM q) {a1 : Int32} {μ : Mm} {ν : Ml} {o : Int32 × Mm} (ho : F_M_takesE a1 μ = some o) : Ct sdM q y_M_takesE prog_14_method_32_code 4 (some (FieldType.boolean)) 4 [.ref (q.2.2.1 0), .int a1] μ ν ((φIm ν) o).1 ((φIm ν) o).2.1 ((φIm ν) o).2.2 := Ct_of rfl hg (fun z C => w_M_takesE C) (Nat.le_of_ble_eq_true rfl) ho
