def L_M_talk_35 (f8 : Int32) (f9 : Int32) (μ : Mm) (k : Int32 → Option (Int32 × Mm)) : Nat → Int32 → Int32 → Option (Int32 × Mm)
  | 0, _, _ => none
  | n + 1, s6, s7 => (if (μ 0 0) ≤ s7 then k s6 else (F_M_has f9 s7).bind fun v10 => jn (α := Int32) (fun K15 => jn (α := Unit) (fun K13 => (if v10 = 0 then K13 () else (rdI (μ 4) 6 s7).bind fun v12 => (if v12 = 5 then K15 1 else K13 ()))) (fun (_ : Unit) => K15 0)) (fun (j14 : Int32) => L_M_talk_35 f8 f9 μ k n (s6 + j14) (s7 + 1)))
def F_M_talk (a1 : Int32) (μ : Mm) : Option (Int32 × Mm) := (rdI (μ 4) 6 a1).bind fun v1 => (if v1 = 5 then some (0, μ) else (F_M_has (μ 0 1) a1).bind fun v2 => (if v2 = 0 then (F_M_beside a1 μ).bind fun v4 => L_M_talk_35 a1 v4 μ (fun (x16 : Int32) => (F_M_voice a1 μ).bind fun p_ => match p_ with | (v17, μ18) => (F_M_least0 (v17 - (2 * x16))).bind fun v20 => (if v4 = 0 then some ((v20 + 0), μ18) else (F_M_wears μ18).bind fun v22 => if v22 = 0 then none else some ((v20 + ((μ18 0 2) / v22)), μ18))) fu 0 0 else some (0, μ)))
theorem d_M_talk_0 : decode prog_14_method_48_code 0 = .ok (.aload_n 0, 1) := by decide +kernel
theorem d_M_talk_4 : decode prog_14_method_48_code 4 = .ok (.iload_n 1, 1) := by decide +kernel
theorem d_M_talk_6 : decode prog_14_method_48_code 6 = .ok (.iconst 5, 1) := by decide +kernel
theorem d_M_talk_22 : decode prog_14_method_48_code 22 = .ok (.iconst 0, 1) := by decide +kernel
theorem d_M_talk_23 : decode prog_14_method_48_code 23 = .ok (.ireturn, 1) := by decide +kernel
theorem d_M_talk_10 : decode prog_14_method_48_code 10 = .ok (.aload_n 0, 1) := by decide +kernel
theorem d_M_talk_11 : decode prog_14_method_48_code 11 = .ok (.aload_n 0, 1) := by decide +kernel
theorem d_M_talk_15 : decode prog_14_method_48_code 15 = .ok (.iload_n 1, 1) := by decide +kernel
theorem d_M_talk_16 : decode prog_14_method_48_code 16 = .ok (.invokevirtual 221, 3) := by decide +kernel
theorem d_M_talk_24 : decode prog_14_method_48_code 24 = .ok (.aload_n 0, 1) := by decide +kernel
theorem d_M_talk_25 : decode prog_14_method_48_code 25 = .ok (.iload_n 1, 1) := by decide +kernel
theorem d_M_talk_26 : decode prog_14_method_48_code 26 = .ok (.invokevirtual 325, 3) := by decide +kernel
theorem d_M_talk_29 : decode prog_14_method_48_code 29 = .ok (.istore_n 2, 1) := by decide +kernel
theorem d_M_talk_30 : decode prog_14_method_48_code 30 = .ok (.iconst 0, 1) := by decide +kernel
theorem d_M_talk_31 : decode prog_14_method_48_code 31 = .ok (.istore_n 3, 1) := by decide +kernel
theorem d_M_talk_32 : decode prog_14_method_48_code 32 = .ok (.iconst 0, 1) := by decide +kernel
theorem d_M_talk_33 : decode prog_14_method_48_code 33 = .ok (.istore 4, 2) := by decide +kernel
theorem d_M_talk_35 : decode prog_14_method_48_code 35 = .ok (.iload 4, 2) := by decide +kernel
theorem d_M_talk_37 : decode prog_14_method_48_code 37 = .ok (.aload_n 0, 1) := by decide +kernel
theorem d_M_talk_44 : decode prog_14_method_48_code 44 = .ok (.iload_n 3, 1) := by decide +kernel
theorem d_M_talk_45 : decode prog_14_method_48_code 45 = .ok (.aload_n 0, 1) := by decide +kernel
theorem d_M_talk_46 : decode prog_14_method_48_code 46 = .ok (.iload_n 2, 1) := by decide +kernel
theorem d_M_talk_47 : decode prog_14_method_48_code 47 = .ok (.iload 4, 2) := by decide +kernel
theorem d_M_talk_49 : decode prog_14_method_48_code 49 = .ok (.invokevirtual 221, 3) := by decide +kernel
theorem d_M_talk_55 : decode prog_14_method_48_code 55 = .ok (.aload_n 0, 1) := by decide +kernel
theorem d_M_talk_59 : decode prog_14_method_48_code 59 = .ok (.iload 4, 2) := by decide +kernel
theorem d_M_talk_62 : decode prog_14_method_48_code 62 = .ok (.iconst 5, 1) := by decide +kernel
theorem d_M_talk_66 : decode prog_14_method_48_code 66 = .ok (.iconst 1, 1) := by decide +kernel
theorem d_M_talk_67 : decode prog_14_method_48_code 67 = .ok (.goto 4, 3) := by decide +kernel
theorem d_M_talk_63 : decode prog_14_method_48_code 63 = .ok (.if_icmp .ne 7, 3) := by decide +kernel
theorem d_M_talk_56 : decode prog_14_method_48_code 56 = .ok (.getfield 22, 3) := by decide +kernel
theorem d_M_talk_52 : decode prog_14_method_48_code 52 = .ok (.ifCond .eq 18, 3) := by decide +kernel
theorem d_M_talk_70 : decode prog_14_method_48_code 70 = .ok (.iconst 0, 1) := by decide +kernel
theorem d_M_talk_71 : decode prog_14_method_48_code 71 = .ok (.iadd, 1) := by decide +kernel
theorem d_M_talk_72 : decode prog_14_method_48_code 72 = .ok (.istore_n 3, 1) := by decide +kernel
theorem d_M_talk_73 : decode prog_14_method_48_code 73 = .ok (.iinc 4 1, 3) := by decide +kernel
theorem d_M_talk_76 : decode prog_14_method_48_code 76 = .ok (.goto (-41), 3) := by decide +kernel
theorem d_M_talk_41 : decode prog_14_method_48_code 41 = .ok (.if_icmp .ge 38, 3) := by decide +kernel
theorem d_M_talk_38 : decode prog_14_method_48_code 38 = .ok (.getfield 7, 3) := by decide +kernel
theorem d_M_talk_61 : decode prog_14_method_48_code 61 = .ok (.iaload, 1) := by decide +kernel
set_option maxRecDepth 10000 in
set_option maxHeartbeats 4000000 in
theorem W_M_talk_35 {q : QT} {z : ZT} {μ : Mm} {ν : Ml} {f8 : Int32} {f9 : Int32} {k : Int32 → Option (Int32 × Mm)} (C : Ctx sdM q z prog_14_method_48_code "BesideTomModel" 5 4 (some (FieldType.int))) (hk : ∀ (e0_ : Int32), R sdM q z 5 (φIm ν) (k e0_) μ ν 79 [(0, .ref (q.2.2.1 0)), (1, .int f8), (2, .int f9), (3, .int e0_)] []) : ∀ (n : Nat) (s6 : Int32) (s7 : Int32), R sdM q z 5 (φIm ν) (L_M_talk_35 f8 f9 μ k n s6 s7) μ ν 35 [(3, .int s6), (4, .int s7), (0, .ref (q.2.2.1 0)), (1, .int f8), (2, .int f9)] [] := by
  intro n
  induction n with
  | zero =>
    intros
    exact R_none
  | succ n ih =>
    intro s6 s7
    rw [L_M_talk_35]
    refine R_iload C 1 d_M_talk_35 rfl ?_
    refine R_aload_n C 2 d_M_talk_37 rfl rfl ?_
    refine gf_M_pupils C fl_M_7 d_M_talk_38 ?_
    refine R_icmp_ge C d_M_talk_41 (tgt := 79) (by decide) ?_ ?_
    · skip
      exact R_sub [2, 3, 4, 0] rfl (hk s6)
    · skip
      refine R_iload_n C 0 d_M_talk_44 rfl rfl ?_
      refine R_aload_n C 2 d_M_talk_45 rfl rfl ?_
      refine R_iload_n C 4 d_M_talk_46 rfl rfl ?_
      refine R_iload C 1 d_M_talk_47 rfl ?_
      refine R_bind (fun v10 h11 => ?_)
      refine R_callV C mm_0 (mc_0 q _ _) rfl cf_M_has rfl ml_M_221 im_M_has sl_M_M_has_M_has (c_M_has (gk C) h11) (by decide) (by decide) rfl rfl (Nat.le_of_ble_eq_true rfl) d_M_talk_49 ?_
      refine R_jn (fun K15 => ∀ (j14 : Int32), R sdM q z 5 (φIm ν) (K15 j14) μ ν 71 [(0, .ref (q.2.2.1 0)), (1, .int f8), (2, .int f9), (4, .int s7)] [.int j14, .int s6]) ?_ (fun K15 hK15 => ?_)
      · intro j14
        refine R_iadd C d_M_talk_71 ?_
        refine R_istore_n C (lv' := [(3, .int (s6 + j14)), (0, .ref (q.2.2.1 0)), (1, .int f8), (2, .int f9), (4, .int s7)]) d_M_talk_72 rfl (by decide) rfl ?_
        refine R_iinc C 4 d_M_talk_73 rfl (iinc_v _ (v := 1) (by decide +kernel)) (lv' := [(4, .int (s7 + 1)), (3, .int (s6 + j14)), (0, .ref (q.2.2.1 0)), (1, .int f8), (2, .int f9)]) (by decide) rfl ?_
        refine R_goto C d_M_talk_76 (tgt := 35) (by decide) ?_
        exact R_sub [1, 0, 2, 3, 4] rfl (ih (s6 + j14) (s7 + 1))
      · skip
        refine R_jn (fun K13 => R sdM q z 5 (φIm ν) (K13 ()) μ ν 70 [(0, .ref (q.2.2.1 0)), (1, .int f8), (2, .int f9), (4, .int s7)] [.int s6]) ?_ (fun K13 hK13 => ?_)
        · skip
          refine R_iconst C d_M_talk_70 (v := 0) (by decide +kernel) ?_
          exact R_sub [0, 1, 2, 3] rfl (hK15 0)
        · skip
          refine R_if_eq C d_M_talk_52 (tgt := 70) (by decide) ?_ ?_
          · skip
            exact R_sub [2, 3, 4, 1] rfl (hK13)
          · skip
            refine R_aload_n C 2 d_M_talk_55 rfl rfl ?_
            refine gf_M_kind C fl_M_22 d_M_talk_56 ?_
            refine R_iload C 1 d_M_talk_59 rfl ?_
            refine R_iald C mm_4 (mc_4 q _ _) d_M_talk_61 (fun v12 => ?_)
            refine R_iconst C d_M_talk_62 (v := 5) (by decide +kernel) ?_
            refine R_icmp_ne C d_M_talk_63 (tgt := 70) (by decide) ?_ ?_
            · skip
              exact R_sub [2, 3, 4, 1] rfl (hK13)
            · skip
              refine R_iconst C d_M_talk_66 (v := 1) (by decide +kernel) ?_
              refine R_goto C d_M_talk_67 (tgt := 71) (by decide) ?_
              exact R_sub [2, 3, 4, 1] rfl (hK15 1)
theorem d_M_talk_79 : decode prog_14_method_48_code 79 = .ok (.aload_n 0, 1) := by decide +kernel
theorem d_M_talk_80 : decode prog_14_method_48_code 80 = .ok (.aload_n 0, 1) := by decide +kernel
theorem d_M_talk_81 : decode prog_14_method_48_code 81 = .ok (.iload_n 1, 1) := by decide +kernel
theorem d_M_talk_82 : decode prog_14_method_48_code 82 = .ok (.invokevirtual 334, 3) := by decide +kernel
theorem d_M_talk_85 : decode prog_14_method_48_code 85 = .ok (.iconst 2, 1) := by decide +kernel
theorem d_M_talk_86 : decode prog_14_method_48_code 86 = .ok (.iload_n 3, 1) := by decide +kernel
theorem d_M_talk_87 : decode prog_14_method_48_code 87 = .ok (.imul, 1) := by decide +kernel
theorem d_M_talk_88 : decode prog_14_method_48_code 88 = .ok (.isub, 1) := by decide +kernel
theorem d_M_talk_89 : decode prog_14_method_48_code 89 = .ok (.invokevirtual 319, 3) := by decide +kernel
theorem d_M_talk_92 : decode prog_14_method_48_code 92 = .ok (.iload_n 2, 1) := by decide +kernel
theorem d_M_talk_108 : decode prog_14_method_48_code 108 = .ok (.iconst 0, 1) := by decide +kernel
theorem d_M_talk_109 : decode prog_14_method_48_code 109 = .ok (.iadd, 1) := by decide +kernel
theorem d_M_talk_110 : decode prog_14_method_48_code 110 = .ok (.ireturn, 1) := by decide +kernel
theorem d_M_talk_96 : decode prog_14_method_48_code 96 = .ok (.aload_n 0, 1) := by decide +kernel
theorem d_M_talk_100 : decode prog_14_method_48_code 100 = .ok (.aload_n 0, 1) := by decide +kernel
theorem d_M_talk_101 : decode prog_14_method_48_code 101 = .ok (.invokevirtual 337, 3) := by decide +kernel
theorem d_M_talk_105 : decode prog_14_method_48_code 105 = .ok (.goto 4, 3) := by decide +kernel
theorem d_M_talk_97 : decode prog_14_method_48_code 97 = .ok (.getfield 16, 3) := by decide +kernel
theorem d_M_talk_93 : decode prog_14_method_48_code 93 = .ok (.ifCond .eq 15, 3) := by decide +kernel
theorem d_M_talk_19 : decode prog_14_method_48_code 19 = .ok (.ifCond .eq 5, 3) := by decide +kernel
theorem d_M_talk_12 : decode prog_14_method_48_code 12 = .ok (.getfield 13, 3) := by decide +kernel
theorem d_M_talk_7 : decode prog_14_method_48_code 7 = .ok (.if_icmp .eq 15, 3) := by decide +kernel
theorem d_M_talk_1 : decode prog_14_method_48_code 1 = .ok (.getfield 22, 3) := by decide +kernel
theorem d_M_talk_5 : decode prog_14_method_48_code 5 = .ok (.iaload, 1) := by decide +kernel
theorem d_M_talk_104 : decode prog_14_method_48_code 104 = .ok (.idiv, 1) := by decide +kernel
set_option maxRecDepth 10000 in
set_option maxHeartbeats 4000000 in
theorem w_M_talk {q : QT} {z : ZT} {a1 : Int32} {μ : Mm} {ν : Ml} (C : Ctx sdM q z prog_14_method_48_code "BesideTomModel" 5 4 (some (FieldType.int))) : R sdM q z 5 (φIm ν) (F_M_talk a1 μ) μ ν 0 [(0, .ref (q.2.2.1 0)), (1, .int a1)] [] := by
  unfold F_M_talk
  refine R_aload_n C 0 d_M_talk_0 rfl rfl ?_
  refine gf_M_kind C fl_M_22 d_M_talk_1 ?_
  refine R_iload_n C 1 d_M_talk_4 rfl rfl ?_
  refine R_iald C mm_4 (mc_4 q _ _) d_M_talk_5 (fun v1 => ?_)
  refine R_iconst C d_M_talk_6 (v := 5) (by decide +kernel) ?_
  refine R_icmp_eq C d_M_talk_7 (tgt := 22) (by decide) ?_ ?_
  · skip
    refine R_iconst C d_M_talk_22 (v := 0) (by decide +kernel) ?_
    exact R_iret C rfl d_M_talk_23
  · skip
    refine R_aload_n C 0 d_M_talk_10 rfl rfl ?_
    refine R_aload_n C 0 d_M_talk_11 rfl rfl ?_
    refine gf_M_gone C fl_M_13 d_M_talk_12 ?_
    refine R_iload_n C 1 d_M_talk_15 rfl rfl ?_
    refine R_bind (fun v2 h3 => ?_)
    refine R_callV C mm_0 (mc_0 q _ _) rfl cf_M_has rfl ml_M_221 im_M_has sl_M_M_has_M_has (c_M_has (gk C) h3) (by decide) (by decide) rfl rfl (Nat.le_of_ble_eq_true rfl) d_M_talk_16 ?_
    refine R_if_eq C d_M_talk_19 (tgt := 24) (by decide) ?_ ?_
    · skip
      refine R_aload_n C 0 d_M_talk_24 rfl rfl ?_
      refine R_iload_n C 1 d_M_talk_25 rfl rfl ?_
      refine R_bind (fun v4 h5 => ?_)
      refine R_callV C mm_0 (mc_0 q _ _) rfl cf_M_beside rfl ml_M_325 im_M_beside sl_M_M_beside_M_beside (c_M_beside (gk C) h5) (by decide) (by decide) rfl rfl (Nat.le_of_ble_eq_true rfl) d_M_talk_26 ?_
      refine R_istore_n C (lv' := [(2, .int v4), (0, .ref (q.2.2.1 0)), (1, .int a1)]) d_M_talk_29 rfl (by decide) rfl ?_
      refine R_iconst C d_M_talk_30 (v := 0) (by decide +kernel) ?_
      refine R_istore_n C (lv' := [(3, .int 0), (2, .int v4), (0, .ref (q.2.2.1 0)), (1, .int a1)]) d_M_talk_31 rfl (by decide) rfl ?_
      refine R_iconst C d_M_talk_32 (v := 0) (by decide +kernel) ?_
      refine R_istore C (lv' := [(4, .int 0), (3, .int 0), (2, .int v4), (0, .ref (q.2.2.1 0)), (1, .int a1)]) d_M_talk_33 (by decide) rfl ?_
      refine R_sub [1, 0, 3, 4, 2] rfl ?_
      refine W_M_talk_35 C ?_ fu _ _
      intro x16
      refine R_aload_n C 0 d_M_talk_79 rfl rfl ?_
      refine R_aload_n C 0 d_M_talk_80 rfl rfl ?_
      refine R_iload_n C 1 d_M_talk_81 rfl rfl ?_
      refine R_bind (fun r_ h19 => ?_)
      obtain ⟨v17, μ18⟩ := r_
      refine R_callV C mm_0 (mc_0 q _ _) rfl cf_M_voice rfl ml_M_334 im_M_voice sl_M_M_voice_M_voice (c_M_voice (gk C) h19) (by decide) (by decide) rfl rfl (Nat.le_of_ble_eq_true rfl) d_M_talk_82 ?_
      refine R_iconst C d_M_talk_85 (v := 2) (by decide +kernel) ?_
      refine R_iload_n C 3 d_M_talk_86 rfl rfl ?_
      refine R_imul C d_M_talk_87 ?_
      refine R_isub C d_M_talk_88 ?_
      refine R_bind (fun v20 h21 => ?_)
      refine R_callV C mm_0 (mc_0 q _ _) rfl cf_M_least0 rfl ml_M_319 im_M_least0 sl_M_M_least0_M_least0 (c_M_least0 (gk C) h21) (by decide) (by decide) rfl rfl (Nat.le_of_ble_eq_true rfl) d_M_talk_89 ?_
      refine R_iload_n C 2 d_M_talk_92 rfl rfl ?_
      refine R_if_eq C d_M_talk_93 (tgt := 108) (by decide) ?_ ?_
      · skip
        refine R_iconst C d_M_talk_108 (v := 0) (by decide +kernel) ?_
        refine R_iadd C d_M_talk_109 ?_
        exact R_iret C rfl d_M_talk_110
      · skip
        refine R_aload_n C 0 d_M_talk_96 rfl rfl ?_
        refine gf_M_worn C fl_M_16 d_M_talk_97 ?_
        refine R_aload_n C 0 d_M_talk_100 rfl rfl ?_
        refine R_bind (fun v22 h23 => ?_)
        refine R_callV C mm_0 (mc_0 q _ _) rfl cf_M_wears rfl ml_M_337 im_M_wears sl_M_M_wears_M_wears (c_M_wears (gk C) h23) (by decide) (by decide) rfl rfl (Nat.le_of_ble_eq_true rfl) d_M_talk_101 ?_
        refine R_idivG C d_M_talk_104 ?_
        refine R_goto C d_M_talk_105 (tgt := 109) (by decide) ?_
        refine R_iadd C d_M_talk_109 ?_
        exact R_iret C rfl d_M_talk_110
    · skip
      refine R_iconst C d_M_talk_22 (v := 0) (by decide +kernel) ?_
      exact R_iret C rfl d_M_talk_23
theorem c_M_talk {q : QT} (hg : GOk sdM q) {a1 : Int32} {μ : Mm} {ν : Ml} {o : Int32 × Mm} (ho : F_M_talk a1 μ = some o) : Ct sdM q y_M_talk prog_14_method_48_code 5 (some (FieldType.int)) 4 [.ref (q.2.2.1 0), .int a1] μ ν ((φIm ν) o).1 ((φIm ν) o).2.1 ((φIm ν) o).2.2 := Ct_of rfl hg (fun z C => w_M_talk C) (Nat.le_of_ble_eq_true rfl) ho
def F_M_talkerChats (a1 : Int32) (a2 : Int32) (μ : Mm) : Option (Int32 × Mm) := (F_M_body 20 μ).bind fun μ1 => (F_M_pupilChats a1 a2 μ1).bind fun p_ => match p_ with | (v3, μ4) => some ((v3 ^^^ 6), μ4)
theorem d_M_talkerChats_0 : decode prog_14_method_96_code 0 = .ok (.aload_n 0, 1) := by decide +kernel
theorem d_M_talkerChats_1 : decode prog_14_method_96_code 1 = .ok (.bipush 20, 2) := by decide +kernel
theorem d_M_talkerChats_3 : decode prog_14_method_96_code 3 = .ok (.invokevirtual 423, 3) := by decide +kernel
theorem d_M_talkerChats_6 : decode prog_14_method_96_code 6 = .ok (.aload_n 0, 1) := by decide +kernel
theorem d_M_talkerChats_7 : decode prog_14_method_96_code 7 = .ok (.iload_n 1, 1) := by decide +kernel
theorem d_M_talkerChats_8 : decode prog_14_method_96_code 8 = .ok (.iload_n 2, 1) := by decide +kernel
theorem d_M_talkerChats_9 : decode prog_14_method_96_code 9 = .ok (.invokevirtual 432, 3) := by decide +kernel
theorem d_M_talkerChats_12 : decode prog_14_method_96_code 12 = .ok (.bipush 6, 2) := by decide +kernel
theorem d_M_talkerChats_14 : decode prog_14_method_96_code 14 = .ok (.ixor, 1) := by decide +kernel
theorem d_M_talkerChats_15 : decode prog_14_method_96_code 15 = .ok (.ireturn, 1) := by decide +kernel
set_option maxRecDepth 10000 in
set_option maxHeartbeats 4000000 in
theorem w_M_talkerChats {q : QT} {z : ZT} {a1 : Int32} {a2 : Int32} {μ : Mm} {ν : Ml} (C : Ctx sdM q z prog_14_method_96_code "BesideTomModel" 3 4 (some (FieldType.int))) : R sdM q z 3 (φIm ν) (F_M_talkerChats a1 a2 μ) μ ν 0 [(0, .ref (q.2.2.1 0)), (1, .int a1), (2, .int a2)] [] := by
  unfold F_M_talkerChats
  refine R_aload_n C 0 d_M_talkerChats_0 rfl rfl ?_
  refine R_bipush C d_M_talkerChats_1 (v := 20) (by decide +kernel) ?_
  refine R_bind (fun μ1 h2 => ?_)
  refine R_callV C mm_0 (mc_0 q _ _) rfl cf_M_body rfl ml_M_423 im_M_body sl_M_M_body_M_body (c_M_body (gk C) h2) (by decide) (by decide) rfl rfl (Nat.le_of_ble_eq_true rfl) d_M_talkerChats_3 ?_
  refine R_aload_n C 0 d_M_talkerChats_6 rfl rfl ?_
  refine R_iload_n C 1 d_M_talkerChats_7 rfl rfl ?_
  refine R_iload_n C 2 d_M_talkerChats_8 rfl rfl ?_
  refine R_bind (fun r_ h5 => ?_)
  obtain ⟨v3, μ4⟩ := r_
  refine R_callV C mm_0 (mc_0 q _ _) rfl cf_M_pupilChats rfl ml_M_432 im_M_pupilChats sl_M_M_pupilChats_M_pupilChats (c_M_pupilChats (gk C) h5) (by decide) (by decide) rfl rfl (Nat.le_of_ble_eq_true rfl) d_M_talkerChats_9 ?_
  refine R_bipush C d_M_talkerChats_12 (v := 6) (by decide +kernel) ?_
  refine R_ixor C d_M_talkerChats_14 ?_
  exact R_iret C rfl d_M_talkerChats_15
theorem c_M_talkerChats {q : QT} (hg : GOk sdM q) {a1 : Int32} {a2 : Int32} {μ : Mm} {ν : Ml} {o : Int32 × Mm} (ho : F_M_talkerChats a1 a2 μ = some o) : Ct sdM q y_M_talkerChats prog_14_method_96_code 3 (some (FieldType.int)) 4 [.ref (q.2.2.1 0), .int a1, .int a2] μ ν ((φIm ν) o).1 ((φIm ν) o).2.1 ((φIm ν) o).2.2 := Ct_of rfl hg (fun z C => w_M_talkerChats C) (Nat.le_of_ble_eq_true rfl) ho
def F_M_chatsAct (a1 : Int32) (a2 : Int32) (μ : Mm) : Option (Int32 × Mm) := (rdI (μ 4) 6 a1).bind fun v1 => (if v1 = 1 then (F_M_talkerChats a1 a2 μ).bind fun p_ => match p_ with | (v2, μ3) => some (v2, μ3) else if v1 = 4 then (F_M_body 51 μ).bind fun μ5 => (F_M_talkerChats a1 (a2 + 1) μ5).bind fun p_ => match p_ with | (v7, μ8) => some (v7, μ8) else if v1 = 6 then (F_M_body 70 μ).bind fun μ10 => (F_M_pupilChats a1 a2 μ10).bind fun p_ => match p_ with | (v12, μ13) => (F_M_pupilWhispers a1 2 μ13).bind fun p_ => match p_ with | (v15, μ16) => some ((v12 + v15), μ16) else (F_M_pupilChats a1 a2 μ).bind fun p_ => match p_ with | (v18, μ19) => some (v18, μ19))
theorem d_M_chatsAct_0 : decode prog_14_method_97_code 0 = .ok (.aload_n 0, 1) := by decide +kernel
theorem d_M_chatsAct_4 : decode prog_14_method_97_code 4 = .ok (.iload_n 1, 1) := by decide +kernel
theorem d_M_chatsAct_6 : decode prog_14_method_97_code 6 = .ok (.lookupswitch 78 #[(1, 34), (4, 41), (6, 56)], 34) := by decide +kernel
theorem d_M_chatsAct_40 : decode prog_14_method_97_code 40 = .ok (.aload_n 0, 1) := by decide +kernel
theorem d_M_chatsAct_41 : decode prog_14_method_97_code 41 = .ok (.iload_n 1, 1) := by decide +kernel
theorem d_M_chatsAct_42 : decode prog_14_method_97_code 42 = .ok (.iload_n 2, 1) := by decide +kernel
theorem d_M_chatsAct_43 : decode prog_14_method_97_code 43 = .ok (.invokevirtual 435, 3) := by decide +kernel
theorem d_M_chatsAct_46 : decode prog_14_method_97_code 46 = .ok (.ireturn, 1) := by decide +kernel
theorem d_M_chatsAct_47 : decode prog_14_method_97_code 47 = .ok (.aload_n 0, 1) := by decide +kernel
theorem d_M_chatsAct_48 : decode prog_14_method_97_code 48 = .ok (.bipush 51, 2) := by decide +kernel
theorem d_M_chatsAct_50 : decode prog_14_method_97_code 50 = .ok (.invokevirtual 423, 3) := by decide +kernel
theorem d_M_chatsAct_53 : decode prog_14_method_97_code 53 = .ok (.aload_n 0, 1) := by decide +kernel
theorem d_M_chatsAct_54 : decode prog_14_method_97_code 54 = .ok (.iload_n 1, 1) := by decide +kernel
theorem d_M_chatsAct_55 : decode prog_14_method_97_code 55 = .ok (.iload_n 2, 1) := by decide +kernel
theorem d_M_chatsAct_56 : decode prog_14_method_97_code 56 = .ok (.iconst 1, 1) := by decide +kernel
theorem d_M_chatsAct_57 : decode prog_14_method_97_code 57 = .ok (.iadd, 1) := by decide +kernel
theorem d_M_chatsAct_58 : decode prog_14_method_97_code 58 = .ok (.invokevirtual 435, 3) := by decide +kernel
theorem d_M_chatsAct_61 : decode prog_14_method_97_code 61 = .ok (.ireturn, 1) := by decide +kernel
theorem d_M_chatsAct_62 : decode prog_14_method_97_code 62 = .ok (.aload_n 0, 1) := by decide +kernel
theorem d_M_chatsAct_63 : decode prog_14_method_97_code 63 = .ok (.bipush 70, 2) := by decide +kernel
theorem d_M_chatsAct_65 : decode prog_14_method_97_code 65 = .ok (.invokevirtual 423, 3) := by decide +kernel
theorem d_M_chatsAct_68 : decode prog_14_method_97_code 68 = .ok (.aload_n 0, 1) := by decide +kernel
theorem d_M_chatsAct_69 : decode prog_14_method_97_code 69 = .ok (.iload_n 1, 1) := by decide +kernel
theorem d_M_chatsAct_70 : decode prog_14_method_97_code 70 = .ok (.iload_n 2, 1) := by decide +kernel
theorem d_M_chatsAct_71 : decode prog_14_method_97_code 71 = .ok (.invokevirtual 432, 3) := by decide +kernel
theorem d_M_chatsAct_74 : decode prog_14_method_97_code 74 = .ok (.istore_n 3, 1) := by decide +kernel
theorem d_M_chatsAct_75 : decode prog_14_method_97_code 75 = .ok (.iload_n 3, 1) := by decide +kernel
theorem d_M_chatsAct_76 : decode prog_14_method_97_code 76 = .ok (.aload_n 0, 1) := by decide +kernel
theorem d_M_chatsAct_77 : decode prog_14_method_97_code 77 = .ok (.iload_n 1, 1) := by decide +kernel
theorem d_M_chatsAct_78 : decode prog_14_method_97_code 78 = .ok (.iconst 2, 1) := by decide +kernel
theorem d_M_chatsAct_79 : decode prog_14_method_97_code 79 = .ok (.invokevirtual 426, 3) := by decide +kernel
theorem d_M_chatsAct_82 : decode prog_14_method_97_code 82 = .ok (.iadd, 1) := by decide +kernel
theorem d_M_chatsAct_83 : decode prog_14_method_97_code 83 = .ok (.ireturn, 1) := by decide +kernel
theorem d_M_chatsAct_84 : decode prog_14_method_97_code 84 = .ok (.aload_n 0, 1) := by decide +kernel
theorem d_M_chatsAct_85 : decode prog_14_method_97_code 85 = .ok (.iload_n 1, 1) := by decide +kernel
theorem d_M_chatsAct_86 : decode prog_14_method_97_code 86 = .ok (.iload_n 2, 1) := by decide +kernel
theorem d_M_chatsAct_87 : decode prog_14_method_97_code 87 = .ok (.invokevirtual 432, 3) := by decide +kernel
theorem d_M_chatsAct_90 : decode prog_14_method_97_code 90 = .ok (.ireturn, 1) := by decide +kernel
theorem d_M_chatsAct_1 : decode prog_14_method_97_code 1 = .ok (.getfield 22, 3) := by decide +kernel
theorem d_M_chatsAct_5 : decode prog_14_method_97_code 5 = .ok (.iaload, 1) := by decide +kernel
set_option maxRecDepth 10000 in
set_option maxHeartbeats 4000000 in
theorem w_M_chatsAct {q : QT} {z : ZT} {a1 : Int32} {a2 : Int32} {μ : Mm} {ν : Ml} (C : Ctx sdM q z prog_14_method_97_code "BesideTomModel" 4 5 (some (FieldType.int))) : R sdM q z 4 (φIm ν) (F_M_chatsAct a1 a2 μ) μ ν 0 [(0, .ref (q.2.2.1 0)), (1, .int a1), (2, .int a2)] [] := by
  unfold F_M_chatsAct
  refine R_aload_n C 0 d_M_chatsAct_0 rfl rfl ?_
  refine gf_M_kind C fl_M_22 d_M_chatsAct_1 ?_
  refine R_iload_n C 1 d_M_chatsAct_4 rfl rfl ?_
  refine R_iald C mm_4 (mc_4 q _ _) d_M_chatsAct_5 (fun v1 => ?_)
  refine R_ite (fun e21 => ?_) (fun e21 => ?_)
  · rw [e21]
    refine R_lsw C d_M_chatsAct_6 (tgt := 40) (by decide +kernel) (off := 34) (by decide +kernel) (by decide) ?_
    refine R_aload_n C 0 d_M_chatsAct_40 rfl rfl ?_
    refine R_iload_n C 1 d_M_chatsAct_41 rfl rfl ?_
    refine R_iload_n C 2 d_M_chatsAct_42 rfl rfl ?_
    refine R_bind (fun r_ h4 => ?_)
    obtain ⟨v2, μ3⟩ := r_
    refine R_callV C mm_0 (mc_0 q _ _) rfl cf_M_talkerChats rfl ml_M_435 im_M_talkerChats sl_M_M_talkerChats_M_talkerChats (c_M_talkerChats (gk C) h4) (by decide) (by decide) rfl rfl (Nat.le_of_ble_eq_true rfl) d_M_chatsAct_43 ?_
    exact R_iret C rfl d_M_chatsAct_46
  refine R_ite (fun e22 => ?_) (fun e22 => ?_)
  · rw [e22]
    refine R_lsw C d_M_chatsAct_6 (tgt := 47) (by decide +kernel) (off := 41) (by decide +kernel) (by decide) ?_
    refine R_aload_n C 0 d_M_chatsAct_47 rfl rfl ?_
    refine R_bipush C d_M_chatsAct_48 (v := 51) (by decide +kernel) ?_
    refine R_bind (fun μ5 h6 => ?_)
    refine R_callV C mm_0 (mc_0 q _ _) rfl cf_M_body rfl ml_M_423 im_M_body sl_M_M_body_M_body (c_M_body (gk C) h6) (by decide) (by decide) rfl rfl (Nat.le_of_ble_eq_true rfl) d_M_chatsAct_50 ?_
    refine R_aload_n C 0 d_M_chatsAct_53 rfl rfl ?_
    refine R_iload_n C 1 d_M_chatsAct_54 rfl rfl ?_
    refine R_iload_n C 2 d_M_chatsAct_55 rfl rfl ?_
    refine R_iconst C d_M_chatsAct_56 (v := 1) (by decide +kernel) ?_
    refine R_iadd C d_M_chatsAct_57 ?_
    refine R_bind (fun r_ h9 => ?_)
    obtain ⟨v7, μ8⟩ := r_
    refine R_callV C mm_0 (mc_0 q _ _) rfl cf_M_talkerChats rfl ml_M_435 im_M_talkerChats sl_M_M_talkerChats_M_talkerChats (c_M_talkerChats (gk C) h9) (by decide) (by decide) rfl rfl (Nat.le_of_ble_eq_true rfl) d_M_chatsAct_58 ?_
    exact R_iret C rfl d_M_chatsAct_61
  refine R_ite (fun e23 => ?_) (fun e23 => ?_)
  · rw [e23]
    refine R_lsw C d_M_chatsAct_6 (tgt := 62) (by decide +kernel) (off := 56) (by decide +kernel) (by decide) ?_
    refine R_aload_n C 0 d_M_chatsAct_62 rfl rfl ?_
    refine R_bipush C d_M_chatsAct_63 (v := 70) (by decide +kernel) ?_
    refine R_bind (fun μ10 h11 => ?_)
    refine R_callV C mm_0 (mc_0 q _ _) rfl cf_M_body rfl ml_M_423 im_M_body sl_M_M_body_M_body (c_M_body (gk C) h11) (by decide) (by decide) rfl rfl (Nat.le_of_ble_eq_true rfl) d_M_chatsAct_65 ?_
    refine R_aload_n C 0 d_M_chatsAct_68 rfl rfl ?_
    refine R_iload_n C 1 d_M_chatsAct_69 rfl rfl ?_
    refine R_iload_n C 2 d_M_chatsAct_70 rfl rfl ?_
    refine R_bind (fun r_ h14 => ?_)
    obtain ⟨v12, μ13⟩ := r_
    refine R_callV C mm_0 (mc_0 q _ _) rfl cf_M_pupilChats rfl ml_M_432 im_M_pupilChats sl_M_M_pupilChats_M_pupilChats (c_M_pupilChats (gk C) h14) (by decide) (by decide) rfl rfl (Nat.le_of_ble_eq_true rfl) d_M_chatsAct_71 ?_
    refine R_istore_n C (lv' := [(3, .int v12), (0, .ref (q.2.2.1 0)), (1, .int a1), (2, .int a2)]) d_M_chatsAct_74 rfl (by decide) rfl ?_
    refine R_iload_n C 0 d_M_chatsAct_75 rfl rfl ?_
    refine R_aload_n C 1 d_M_chatsAct_76 rfl rfl ?_
    refine R_iload_n C 2 d_M_chatsAct_77 rfl rfl ?_
    refine R_iconst C d_M_chatsAct_78 (v := 2) (by decide +kernel) ?_
    refine R_bind (fun r_ h17 => ?_)
    obtain ⟨v15, μ16⟩ := r_
    refine R_callV C mm_0 (mc_0 q _ _) rfl cf_M_pupilWhispers rfl ml_M_426 im_M_pupilWhispers sl_M_M_pupilWhispers_M_pupilWhispers (c_M_pupilWhispers (gk C) h17) (by decide) (by decide) rfl rfl (Nat.le_of_ble_eq_true rfl) d_M_chatsAct_79 ?_
    refine R_iadd C d_M_chatsAct_82 ?_
    exact R_iret C rfl d_M_chatsAct_83
  refine R_lsw C d_M_chatsAct_6 (tgt := 84) (by decide +kernel) (off := 78) ((lv_osw e21 (a := 1) (by decide +kernel)).trans ((lv_osw e22 (a := 4) (by decide +kernel)).trans ((lv_osw e23 (a := 6) (by decide +kernel)).trans rfl))) (by decide) ?_
  refine R_aload_n C 0 d_M_chatsAct_84 rfl rfl ?_
  refine R_iload_n C 1 d_M_chatsAct_85 rfl rfl ?_
  refine R_iload_n C 2 d_M_chatsAct_86 rfl rfl ?_
  refine R_bind (fun r_ h20 => ?_)
  obtain ⟨v18, μ19⟩ := r_
  refine R_callV C mm_0 (mc_0 q _ _) rfl cf_M_pupilChats rfl ml_M_432 im_M_pupilChats sl_M_M_pupilChats_M_pupilChats (c_M_pupilChats (gk C) h20) (by decide) (by decide) rfl rfl (Nat.le_of_ble_eq_true rfl) d_M_chatsAct_87 ?_
  exact R_iret C rfl d_M_chatsAct_90
theorem c_M_chatsAct {q : QT} (hg : GOk sdM q) {a1 : Int32} {a2 : Int32} {μ : Mm} {ν : Ml} {o : Int32 × Mm} (ho : F_M_chatsAct a1 a2 μ = some o) : Ct sdM q y_M_chatsAct prog_14_method_97_code 4 (some (FieldType.int)) 5 [.ref (q.2.2.1 0), .int a1, .int a2] μ ν ((φIm ν) o).1 ((φIm ν) o).2.1 ((φIm ν) o).2.2 := Ct_of rfl hg (fun z C => w_M_chatsAct C) (Nat.le_of_ble_eq_true rfl) ho
def L_M_noise_4 (k : Int32 → Mm → Option (Int32 × Mm)) : Nat → Int32 → Int32 → Mm → Option (Int32 × Mm)
  | 0, _, _, _ => none
  | n + 1, s1, s2, μ3 => (if (μ3 0 0) ≤ s2 then k s1 μ3 else (F_M_talk s2 μ3).bind fun p_ => match p_ with | (v4, μ5) => L_M_noise_4 k n (s1 + v4) (s2 + 1) μ5)
def F_M_noise (μ : Mm) : Option (Int32 × Mm) := L_M_noise_4 (fun (x7 : Int32) (μ8 : Mm) => some (x7, μ8)) fu 0 0 μ
theorem d_M_noise_0 : decode prog_14_method_49_code 0 = .ok (.iconst 0, 1) := by decide +kernel
theorem d_M_noise_1 : decode prog_14_method_49_code 1 = .ok (.istore_n 1, 1) := by decide +kernel
theorem d_M_noise_2 : decode prog_14_method_49_code 2 = .ok (.iconst 0, 1) := by decide +kernel
theorem d_M_noise_3 : decode prog_14_method_49_code 3 = .ok (.istore_n 2, 1) := by decide +kernel
theorem d_M_noise_4 : decode prog_14_method_49_code 4 = .ok (.iload_n 2, 1) := by decide +kernel
theorem d_M_noise_5 : decode prog_14_method_49_code 5 = .ok (.aload_n 0, 1) := by decide +kernel
theorem d_M_noise_12 : decode prog_14_method_49_code 12 = .ok (.iload_n 1, 1) := by decide +kernel
theorem d_M_noise_13 : decode prog_14_method_49_code 13 = .ok (.aload_n 0, 1) := by decide +kernel
theorem d_M_noise_14 : decode prog_14_method_49_code 14 = .ok (.iload_n 2, 1) := by decide +kernel
theorem d_M_noise_15 : decode prog_14_method_49_code 15 = .ok (.invokevirtual 340, 3) := by decide +kernel
theorem d_M_noise_18 : decode prog_14_method_49_code 18 = .ok (.iadd, 1) := by decide +kernel
theorem d_M_noise_19 : decode prog_14_method_49_code 19 = .ok (.istore_n 1, 1) := by decide +kernel
theorem d_M_noise_20 : decode prog_14_method_49_code 20 = .ok (.iinc 2 1, 3) := by decide +kernel
theorem d_M_noise_23 : decode prog_14_method_49_code 23 = .ok (.goto (-19), 3) := by decide +kernel
theorem d_M_noise_9 : decode prog_14_method_49_code 9 = .ok (.if_icmp .ge 17, 3) := by decide +kernel
theorem d_M_noise_6 : decode prog_14_method_49_code 6 = .ok (.getfield 7, 3) := by decide +kernel
set_option maxRecDepth 10000 in
set_option maxHeartbeats 4000000 in
theorem W_M_noise_4 {q : QT} {z : ZT} {ν : Ml} {k : Int32 → Mm → Option (Int32 × Mm)} (C : Ctx sdM q z prog_14_method_49_code "BesideTomModel" 3 5 (some (FieldType.int))) (hk : ∀ (e0_ : Int32) (me_ : Mm), R sdM q z 3 (φIm ν) (k e0_ me_) me_ ν 26 [(1, .int e0_)] []) : ∀ (n : Nat) (s1 : Int32) (s2 : Int32) (μ3 : Mm), R sdM q z 3 (φIm ν) (L_M_noise_4 k n s1 s2 μ3) μ3 ν 4 [(1, .int s1), (2, .int s2), (0, .ref (q.2.2.1 0))] [] := by
  intro n
  induction n with
  | zero =>
    intros
    exact R_none
  | succ n ih =>
    intro s1 s2 μ3
    rw [L_M_noise_4]
    refine R_iload_n C 1 d_M_noise_4 rfl rfl ?_
    refine R_aload_n C 2 d_M_noise_5 rfl rfl ?_
    refine gf_M_pupils C fl_M_7 d_M_noise_6 ?_
    refine R_icmp_ge C d_M_noise_9 (tgt := 26) (by decide) ?_ ?_
    · skip
      exact R_sub [0] rfl (hk s1 μ3)
    · skip
      refine R_iload_n C 0 d_M_noise_12 rfl rfl ?_
      refine R_aload_n C 2 d_M_noise_13 rfl rfl ?_
      refine R_iload_n C 1 d_M_noise_14 rfl rfl ?_
      refine R_bind (fun r_ h6 => ?_)
      obtain ⟨v4, μ5⟩ := r_
      refine R_callV C mm_0 (mc_0 q _ _) rfl cf_M_talk rfl ml_M_340 im_M_talk sl_M_M_talk_M_talk (c_M_talk (gk C) h6) (by decide) (by decide) rfl rfl (Nat.le_of_ble_eq_true rfl) d_M_noise_15 ?_
      refine R_iadd C d_M_noise_18 ?_
      refine R_istore_n C (lv' := [(1, .int (s1 + v4)), (2, .int s2), (0, .ref (q.2.2.1 0))]) d_M_noise_19 rfl (by decide) rfl ?_
      refine R_iinc C 1 d_M_noise_20 rfl (iinc_v _ (v := 1) (by decide +kernel)) (lv' := [(2, .int (s2 + 1)), (1, .int (s1 + v4)), (0, .ref (q.2.2.1 0))]) (by decide) rfl ?_
      refine R_goto C d_M_noise_23 (tgt := 4) (by decide) ?_
      exact R_sub [1, 0, 2] rfl (ih (s1 + v4) (s2 + 1) μ5)
theorem d_M_noise_26 : decode prog_14_method_49_code 26 = .ok (.iload_n 1, 1) := by decide +kernel
theorem d_M_noise_27 : decode prog_14_method_49_code 27 = .ok (.ireturn, 1) := by decide +kernel
set_option maxRecDepth 10000 in
set_option maxHeartbeats 4000000 in
theorem w_M_noise {q : QT} {z : ZT} {μ : Mm} {ν : Ml} (C : Ctx sdM q z prog_14_method_49_code "BesideTomModel" 3 5 (some (FieldType.int))) : R sdM q z 3 (φIm ν) (F_M_noise μ) μ ν 0 [(0, .ref (q.2.2.1 0))] [] := by
  unfold F_M_noise
  refine R_iconst C d_M_noise_0 (v := 0) (by decide +kernel) ?_
  refine R_istore_n C (lv' := [(1, .int 0), (0, .ref (q.2.2.1 0))]) d_M_noise_1 rfl (by decide) rfl ?_
  refine R_iconst C d_M_noise_2 (v := 0) (by decide +kernel) ?_
  refine R_istore_n C (lv' := [(2, .int 0), (1, .int 0), (0, .ref (q.2.2.1 0))]) d_M_noise_3 rfl (by decide) rfl ?_
  refine R_sub [1, 0, 2] rfl ?_
  refine W_M_noise_4 C ?_ fu _ _ _
  intro x7 μ8
  refine R_iload_n C 0 d_M_noise_26 rfl rfl ?_
  exact R_iret C rfl d_M_noise_27
theorem c_M_noise {q : QT} (hg : GOk sdM q) {μ : Mm} {ν : Ml} {o : Int32 × Mm} (ho : F_M_noise μ = some o) : Ct sdM q y_M_noise prog_14_method_49_code 3 (some (FieldType.int)) 5 [.ref (q.2.2.1 0)] μ ν ((φIm ν) o).1 ((φIm ν) o).2.1 ((φIm ν) o).2.2 := Ct_of rfl hg (fun z C => w_M_noise C) (Nat.le_of_ble_eq_true rfl) ho
def F_M_takesClause (a1 : Int32) (μ : Mm) : Option (Int32 × Mm) := (F_M_takesHead a1 μ).bind fun p_ => match p_ with | (v1, μ2) => (if v1 = 0 then some (0, μ2) else (F_M_takesNumber μ2).bind fun p_ => match p_ with | (v4, μ5) => (if v4 = 0 then some (0, μ5) else (wrI μ5 17 60 a1 (μ5 0 13)).bind fun μ7 => (rdI (μ7 16) 60 a1).bind fun v8 => jn (α := Mm) (fun K16 => (if 2 ≤ v8 then K16 μ7 else (F_M_takes 32 μ7).bind fun p_ => match p_ with | (v9, μ10) => (if v9 = 0 then some (0, μ10) else (F_M_takesE a1 μ10).bind fun p_ => match p_ with | (v12, μ13) => (if v12 = 0 then some (0, μ13) else K16 μ13)))) (fun (μ15 : Mm) => some (1, μ15))))
theorem d_M_takesClause_0 : decode prog_14_method_34_code 0 = .ok (.aload_n 0, 1) := by decide +kernel
theorem d_M_takesClause_1 : decode prog_14_method_34_code 1 = .ok (.iload_n 1, 1) := by decide +kernel
theorem d_M_takesClause_2 : decode prog_14_method_34_code 2 = .ok (.invokevirtual 290, 3) := by decide +kernel
theorem d_M_takesClause_15 : decode prog_14_method_34_code 15 = .ok (.iconst 0, 1) := by decide +kernel
theorem d_M_takesClause_16 : decode prog_14_method_34_code 16 = .ok (.ireturn, 1) := by decide +kernel
theorem d_M_takesClause_8 : decode prog_14_method_34_code 8 = .ok (.aload_n 0, 1) := by decide +kernel
theorem d_M_takesClause_9 : decode prog_14_method_34_code 9 = .ok (.invokevirtual 272, 3) := by decide +kernel
theorem d_M_takesClause_17 : decode prog_14_method_34_code 17 = .ok (.aload_n 0, 1) := by decide +kernel
theorem d_M_takesClause_21 : decode prog_14_method_34_code 21 = .ok (.iload_n 1, 1) := by decide +kernel
theorem d_M_takesClause_22 : decode prog_14_method_34_code 22 = .ok (.aload_n 0, 1) := by decide +kernel
theorem d_M_takesClause_27 : decode prog_14_method_34_code 27 = .ok (.aload_n 0, 1) := by decide +kernel
theorem d_M_takesClause_31 : decode prog_14_method_34_code 31 = .ok (.iload_n 1, 1) := by decide +kernel
theorem d_M_takesClause_33 : decode prog_14_method_34_code 33 = .ok (.iconst 2, 1) := by decide +kernel
theorem d_M_takesClause_37 : decode prog_14_method_34_code 37 = .ok (.aload_n 0, 1) := by decide +kernel
theorem d_M_takesClause_38 : decode prog_14_method_34_code 38 = .ok (.bipush 32, 2) := by decide +kernel
theorem d_M_takesClause_40 : decode prog_14_method_34_code 40 = .ok (.invokevirtual 258, 3) := by decide +kernel
theorem d_M_takesClause_58 : decode prog_14_method_34_code 58 = .ok (.iconst 0, 1) := by decide +kernel
theorem d_M_takesClause_59 : decode prog_14_method_34_code 59 = .ok (.ireturn, 1) := by decide +kernel
theorem d_M_takesClause_46 : decode prog_14_method_34_code 46 = .ok (.aload_n 0, 1) := by decide +kernel
theorem d_M_takesClause_47 : decode prog_14_method_34_code 47 = .ok (.iload_n 1, 1) := by decide +kernel
theorem d_M_takesClause_48 : decode prog_14_method_34_code 48 = .ok (.invokevirtual 293, 3) := by decide +kernel
theorem d_M_takesClause_51 : decode prog_14_method_34_code 51 = .ok (.ifCond .eq 7, 3) := by decide +kernel
theorem d_M_takesClause_43 : decode prog_14_method_34_code 43 = .ok (.ifCond .eq 15, 3) := by decide +kernel
theorem d_M_takesClause_34 : decode prog_14_method_34_code 34 = .ok (.if_icmp .ge 20, 3) := by decide +kernel
theorem d_M_takesClause_54 : decode prog_14_method_34_code 54 = .ok (.iconst 1, 1) := by decide +kernel
theorem d_M_takesClause_55 : decode prog_14_method_34_code 55 = .ok (.goto 4, 3) := by decide +kernel
theorem d_M_takesClause_28 : decode prog_14_method_34_code 28 = .ok (.getfield 59, 3) := by decide +kernel
theorem d_M_takesClause_26 : decode prog_14_method_34_code 26 = .ok (.iastore, 1) := by decide +kernel
theorem d_M_takesClause_23 : decode prog_14_method_34_code 23 = .ok (.getfield 50, 3) := by decide +kernel
theorem d_M_takesClause_18 : decode prog_14_method_34_code 18 = .ok (.getfield 62, 3) := by decide +kernel
theorem d_M_takesClause_12 : decode prog_14_method_34_code 12 = .ok (.ifCond .ne 5, 3) := by decide +kernel
theorem d_M_takesClause_5 : decode prog_14_method_34_code 5 = .ok (.ifCond .eq 10, 3) := by decide +kernel
theorem d_M_takesClause_32 : decode prog_14_method_34_code 32 = .ok (.iaload, 1) := by decide +kernel
set_option maxRecDepth 10000 in
set_option maxHeartbeats 4000000 in
theorem w_M_takesClause {q : QT} {z : ZT} {a1 : Int32} {μ : Mm} {ν : Ml} (C : Ctx sdM q z prog_14_method_34_code "BesideTomModel" 2 5 (some (FieldType.boolean))) : R sdM q z 2 (φIm ν) (F_M_takesClause a1 μ) μ ν 0 [(0, .ref (q.2.2.1 0)), (1, .int a1)] [] := by
  unfold F_M_takesClause
  refine R_aload_n C 0 d_M_takesClause_0 rfl rfl ?_
  refine R_iload_n C 1 d_M_takesClause_1 rfl rfl ?_
  refine R_bind (fun r_ h3 => ?_)
  obtain ⟨v1, μ2⟩ := r_
  refine R_callV C mm_0 (mc_0 q _ _) rfl cf_M_takesHead rfl ml_M_290 im_M_takesHead sl_M_M_takesHead_M_takesHead (c_M_takesHead (gk C) h3) (by decide) (by decide) rfl rfl (Nat.le_of_ble_eq_true rfl) d_M_takesClause_2 ?_
  refine R_if_eq C d_M_takesClause_5 (tgt := 15) (by decide) ?_ ?_
  · skip
    refine R_iconst C d_M_takesClause_15 (v := 0) (by decide +kernel) ?_
    exact R_zret C (by decide) rfl d_M_takesClause_16
  · skip
    refine R_aload_n C 0 d_M_takesClause_8 rfl rfl ?_
    refine R_bind (fun r_ h6 => ?_)
    obtain ⟨v4, μ5⟩ := r_
    refine R_callV C mm_0 (mc_0 q _ _) rfl cf_M_takesNumber rfl ml_M_272 im_M_takesNumber sl_M_M_takesNumber_M_takesNumber (c_M_takesNumber (gk C) h6) (by decide) (by decide) rfl rfl (Nat.le_of_ble_eq_true rfl) d_M_takesClause_9 ?_
    refine R_if_ne C d_M_takesClause_12 (tgt := 17) (by decide) ?_ ?_
    · skip
      refine R_aload_n C 0 d_M_takesClause_17 rfl rfl ?_
      refine gf_M_number C fl_M_62 d_M_takesClause_18 ?_
      refine R_iload_n C 1 d_M_takesClause_21 rfl rfl ?_
      refine R_aload_n C 0 d_M_takesClause_22 rfl rfl ?_
      refine gf_M_digits C fl_M_50 d_M_takesClause_23 ?_
      refine R_iast C mm_17 (fun h => mc_17 q h _) d_M_takesClause_26 (fun μ7 => ?_)
      refine R_aload_n C 0 d_M_takesClause_27 rfl rfl ?_
      refine gf_M_word C fl_M_59 d_M_takesClause_28 ?_
      refine R_iload_n C 1 d_M_takesClause_31 rfl rfl ?_
      refine R_iald C mm_16 (mc_16 q _ _) d_M_takesClause_32 (fun v8 => ?_)
      refine R_iconst C d_M_takesClause_33 (v := 2) (by decide +kernel) ?_
      refine R_jn (fun K16 => ∀ (μ15 : Mm), R sdM q z 2 (φIm ν) (K16 μ15) μ15 ν 54 [] []) ?_ (fun K16 hK16 => ?_)
      · intro μ15
        refine R_iconst C d_M_takesClause_54 (v := 1) (by decide +kernel) ?_
        refine R_goto C d_M_takesClause_55 (tgt := 59) (by decide) ?_
        exact R_zret C (by decide) rfl d_M_takesClause_59
      · skip
        refine R_icmp_ge C d_M_takesClause_34 (tgt := 54) (by decide) ?_ ?_
        · skip
          exact R_sub [] rfl (hK16 μ7)
        · skip
          refine R_aload_n C 0 d_M_takesClause_37 rfl rfl ?_
          refine R_bipush C d_M_takesClause_38 (v := 32) (by decide +kernel) ?_
          refine R_bind (fun r_ h11 => ?_)
          obtain ⟨v9, μ10⟩ := r_
          refine R_callV C mm_0 (mc_0 q _ _) rfl cf_M_takes rfl ml_M_258 im_M_takes sl_M_M_takes_M_takes (c_M_takes (gk C) h11) (by decide) (by decide) rfl rfl (Nat.le_of_ble_eq_true rfl) d_M_takesClause_40 ?_
          refine R_if_eq C d_M_takesClause_43 (tgt := 58) (by decide) ?_ ?_
          · skip
            refine R_iconst C d_M_takesClause_58 (v := 0) (by decide +kernel) ?_
            exact R_zret C (by decide) rfl d_M_takesClause_59
          · skip
            refine R_aload_n C 0 d_M_takesClause_46 rfl rfl ?_
            refine R_iload_n C 1 d_M_takesClause_47 rfl rfl ?_
            refine R_bind (fun r_ h14 => ?_)
            obtain ⟨v12, μ13⟩ := r_
            refine R_callV C mm_0 (mc_0 q _ _) rfl cf_M_takesE rfl ml_M_293 im_M_takesE sl_M_M_takesE_M_takesE (c_M_takesE (gk C) h14) (by decide) (by decide) rfl rfl (Nat.le_of_ble_eq_true rfl) d_M_takesClause_48 ?_
            refine R_if_eq C d_M_takesClause_51 (tgt := 58) (by decide) ?_ ?_
            · skip
              refine R_iconst C d_M_takesClause_58 (v := 0) (by decide +kernel) ?_
              exact R_zret C (by decide) rfl d_M_takesClause_59
            · skip
              exact R_sub [] rfl (hK16 μ13)
    · skip
      refine R_iconst C d_M_takesClause_15 (v := 0) (by decide +kernel) ?_
      exact R_zret C (by decide) rfl d_M_takesClause_16
theorem c_M_takesClause {q : QT} (hg : GOk sdM q) {a1 : Int32} {μ : Mm} {ν : Ml} {o : Int32 × Mm} (ho : F_M_takesClause a1 μ = some o) : Ct sdM q y_M_takesClause prog_14_method_34_code 2 (some (FieldType.boolean)) 5 [.ref (q.2.2.1 0), .int a1] μ ν ((φIm ν) o).1 ((φIm ν) o).2.1 ((φIm ν) o).2.2 := Ct_of rfl hg (fun z C => w_M_takesClause C) (Nat.le_of_ble_eq_true rfl) ho
def L_M_allLearn_9 (f6 : Int32) (μ : Mm) (k : Int32 → Option (Int32 × Mm)) : Nat → Int32 → Int32 → Option (Int32 × Mm)
  | 0, _, _ => none
  | n + 1, s4, s5 => (if (μ 0 0) ≤ s5 then k s4 else (F_M_learnsBy s5 f6 μ).bind fun v7 => L_M_allLearn_9 f6 μ k n (s4 + v7) (s5 + 1))
def F_M_allLearn (μ : Mm) : Option (Int32 × Mm) := (F_M_noise μ).bind fun p_ => match p_ with | (v1, μ2) => L_M_allLearn_9 v1 μ2 (fun (x9 : Int32) => some (x9, μ2)) fu 0 0
theorem d_M_allLearn_0 : decode prog_14_method_52_code 0 = .ok (.aload_n 0, 1) := by decide +kernel
theorem d_M_allLearn_1 : decode prog_14_method_52_code 1 = .ok (.invokevirtual 251, 3) := by decide +kernel
theorem d_M_allLearn_4 : decode prog_14_method_52_code 4 = .ok (.istore_n 1, 1) := by decide +kernel
theorem d_M_allLearn_5 : decode prog_14_method_52_code 5 = .ok (.iconst 0, 1) := by decide +kernel
theorem d_M_allLearn_6 : decode prog_14_method_52_code 6 = .ok (.istore_n 2, 1) := by decide +kernel
theorem d_M_allLearn_7 : decode prog_14_method_52_code 7 = .ok (.iconst 0, 1) := by decide +kernel
theorem d_M_allLearn_8 : decode prog_14_method_52_code 8 = .ok (.istore_n 3, 1) := by decide +kernel
theorem d_M_allLearn_9 : decode prog_14_method_52_code 9 = .ok (.iload_n 3, 1) := by decide +kernel
theorem d_M_allLearn_10 : decode prog_14_method_52_code 10 = .ok (.aload_n 0, 1) := by decide +kernel
theorem d_M_allLearn_17 : decode prog_14_method_52_code 17 = .ok (.iload_n 2, 1) := by decide +kernel
theorem d_M_allLearn_18 : decode prog_14_method_52_code 18 = .ok (.aload_n 0, 1) := by decide +kernel
theorem d_M_allLearn_19 : decode prog_14_method_52_code 19 = .ok (.iload_n 3, 1) := by decide +kernel
theorem d_M_allLearn_20 : decode prog_14_method_52_code 20 = .ok (.iload_n 1, 1) := by decide +kernel
theorem d_M_allLearn_21 : decode prog_14_method_52_code 21 = .ok (.invokevirtual 346, 3) := by decide +kernel
theorem d_M_allLearn_24 : decode prog_14_method_52_code 24 = .ok (.iadd, 1) := by decide +kernel
theorem d_M_allLearn_25 : decode prog_14_method_52_code 25 = .ok (.istore_n 2, 1) := by decide +kernel
theorem d_M_allLearn_26 : decode prog_14_method_52_code 26 = .ok (.iinc 3 1, 3) := by decide +kernel
theorem d_M_allLearn_29 : decode prog_14_method_52_code 29 = .ok (.goto (-20), 3) := by decide +kernel
theorem d_M_allLearn_14 : decode prog_14_method_52_code 14 = .ok (.if_icmp .ge 18, 3) := by decide +kernel
theorem d_M_allLearn_11 : decode prog_14_method_52_code 11 = .ok (.getfield 7, 3) := by decide +kernel
set_option maxRecDepth 10000 in
set_option maxHeartbeats 4000000 in
theorem W_M_allLearn_9 {q : QT} {z : ZT} {μ : Mm} {ν : Ml} {f6 : Int32} {k : Int32 → Option (Int32 × Mm)} (C : Ctx sdM q z prog_14_method_52_code "BesideTomModel" 4 6 (some (FieldType.int))) (hk : ∀ (e0_ : Int32), R sdM q z 4 (φIm ν) (k e0_) μ ν 32 [(2, .int e0_)] []) : ∀ (n : Nat) (s4 : Int32) (s5 : Int32), R sdM q z 4 (φIm ν) (L_M_allLearn_9 f6 μ k n s4 s5) μ ν 9 [(2, .int s4), (3, .int s5), (0, .ref (q.2.2.1 0)), (1, .int f6)] [] := by
  intro n
  induction n with
  | zero =>
    intros
    exact R_none
  | succ n ih =>
    intro s4 s5
    rw [L_M_allLearn_9]
    refine R_iload_n C 1 d_M_allLearn_9 rfl rfl ?_
    refine R_aload_n C 2 d_M_allLearn_10 rfl rfl ?_
    refine gf_M_pupils C fl_M_7 d_M_allLearn_11 ?_
    refine R_icmp_ge C d_M_allLearn_14 (tgt := 32) (by decide) ?_ ?_
    · skip
      exact R_sub [0] rfl (hk s4)
    · skip
      refine R_iload_n C 0 d_M_allLearn_17 rfl rfl ?_
      refine R_aload_n C 2 d_M_allLearn_18 rfl rfl ?_
      refine R_iload_n C 1 d_M_allLearn_19 rfl rfl ?_
      refine R_iload_n C 3 d_M_allLearn_20 rfl rfl ?_
      refine R_bind (fun v7 h8 => ?_)
      refine R_callV C mm_0 (mc_0 q _ _) rfl cf_M_learnsBy rfl ml_M_346 im_M_learnsBy sl_M_M_learnsBy_M_learnsBy (c_M_learnsBy (gk C) h8) (by decide) (by decide) rfl rfl (Nat.le_of_ble_eq_true rfl) d_M_allLearn_21 ?_
      refine R_iadd C d_M_allLearn_24 ?_
      refine R_istore_n C (lv' := [(2, .int (s4 + v7)), (3, .int s5), (0, .ref (q.2.2.1 0)), (1, .int f6)]) d_M_allLearn_25 rfl (by decide) rfl ?_
      refine R_iinc C 1 d_M_allLearn_26 rfl (iinc_v _ (v := 1) (by decide +kernel)) (lv' := [(3, .int (s5 + 1)), (2, .int (s4 + v7)), (0, .ref (q.2.2.1 0)), (1, .int f6)]) (by decide) rfl ?_
      refine R_goto C d_M_allLearn_29 (tgt := 9) (by decide) ?_
      exact R_sub [1, 0, 2, 3] rfl (ih (s4 + v7) (s5 + 1))
theorem d_M_allLearn_32 : decode prog_14_method_52_code 32 = .ok (.iload_n 2, 1) := by decide +kernel
theorem d_M_allLearn_33 : decode prog_14_method_52_code 33 = .ok (.ireturn, 1) := by decide +kernel
set_option maxRecDepth 10000 in
set_option maxHeartbeats 4000000 in
theorem w_M_allLearn {q : QT} {z : ZT} {μ : Mm} {ν : Ml} (C : Ctx sdM q z prog_14_method_52_code "BesideTomModel" 4 6 (some (FieldType.int))) : R sdM q z 4 (φIm ν) (F_M_allLearn μ) μ ν 0 [(0, .ref (q.2.2.1 0))] [] := by
  unfold F_M_allLearn
  refine R_aload_n C 0 d_M_allLearn_0 rfl rfl ?_
  refine R_bind (fun r_ h3 => ?_)
  obtain ⟨v1, μ2⟩ := r_
  refine R_callV C mm_0 (mc_0 q _ _) rfl cf_M_noise rfl ml_M_251 im_M_noise sl_M_M_noise_M_noise (c_M_noise (gk C) h3) (by decide) (by decide) rfl rfl (Nat.le_of_ble_eq_true rfl) d_M_allLearn_1 ?_
  refine R_istore_n C (lv' := [(1, .int v1), (0, .ref (q.2.2.1 0))]) d_M_allLearn_4 rfl (by decide) rfl ?_
  refine R_iconst C d_M_allLearn_5 (v := 0) (by decide +kernel) ?_
  refine R_istore_n C (lv' := [(2, .int 0), (1, .int v1), (0, .ref (q.2.2.1 0))]) d_M_allLearn_6 rfl (by decide) rfl ?_
  refine R_iconst C d_M_allLearn_7 (v := 0) (by decide +kernel) ?_
  refine R_istore_n C (lv' := [(3, .int 0), (2, .int 0), (1, .int v1), (0, .ref (q.2.2.1 0))]) d_M_allLearn_8 rfl (by decide) rfl ?_
  refine R_sub [1, 0, 3, 2] rfl ?_
  refine W_M_allLearn_9 C ?_ fu _ _
  intro x9
  refine R_iload_n C 0 d_M_allLearn_32 rfl rfl ?_
  exact R_iret C rfl d_M_allLearn_33
theorem c_M_allLearn {q : QT} (hg : GOk sdM q) {μ : Mm} {ν : Ml} {o : Int32 × Mm} (ho : F_M_allLearn μ = some o) : Ct sdM q y_M_allLearn prog_14_method_52_code 4 (some (FieldType.int)) 6 [.ref (q.2.2.1 0)] μ ν ((φIm ν) o).1 ((φIm ν) o).2.1 ((φIm ν) o).2.2 := Ct_of rfl hg (fun z C => w_M_allLearn C) (Nat.le_of_ble_eq_true rfl) ho
def L_M_goWeek_7 (f5 : Int32) (k : Mm → Option (Mm)) : Nat → Int32 → Mm → Option (Mm)
  | 0, _, _ => none
  | n + 1, s4, μ6 => (if (μ6 0 0) ≤ s4 then k μ6 else (rdI (μ6 7) 6 s4).bind fun v7 => (F_M_learnsBy s4 f5 μ6).bind fun v8 => (F_M_least (v7 + v8) (μ6 0 27)).bind fun v10 => (wrI μ6 7 6 s4 v10).bind fun μ12 => L_M_goWeek_7 f5 k n (s4 + 1) μ12)
def F_M_goWeek (μ : Mm) : Option (Mm) := (F_M_noise μ).bind fun p_ => match p_ with | (v1, μ2) => L_M_goWeek_7 v1 (fun (μ13 : Mm) => (F_M_least ((μ13 0 2) + 1) 99).bind fun v14 => lt_ (up2 μ13 0 2 v14) fun μ16 => lt_ (up2 μ16 0 3 ((μ16 0 3) + 1)) fun μ17 => some μ17) fu 0 μ2
theorem d_M_goWeek_0 : decode prog_14_method_56_code 0 = .ok (.aload_n 0, 1) := by decide +kernel
theorem d_M_goWeek_1 : decode prog_14_method_56_code 1 = .ok (.invokevirtual 251, 3) := by decide +kernel
theorem d_M_goWeek_4 : decode prog_14_method_56_code 4 = .ok (.istore_n 1, 1) := by decide +kernel
theorem d_M_goWeek_5 : decode prog_14_method_56_code 5 = .ok (.iconst 0, 1) := by decide +kernel
theorem d_M_goWeek_6 : decode prog_14_method_56_code 6 = .ok (.istore_n 2, 1) := by decide +kernel
theorem d_M_goWeek_7 : decode prog_14_method_56_code 7 = .ok (.iload_n 2, 1) := by decide +kernel
theorem d_M_goWeek_8 : decode prog_14_method_56_code 8 = .ok (.aload_n 0, 1) := by decide +kernel
theorem d_M_goWeek_15 : decode prog_14_method_56_code 15 = .ok (.aload_n 0, 1) := by decide +kernel
theorem d_M_goWeek_19 : decode prog_14_method_56_code 19 = .ok (.iload_n 2, 1) := by decide +kernel
theorem d_M_goWeek_20 : decode prog_14_method_56_code 20 = .ok (.aload_n 0, 1) := by decide +kernel
theorem d_M_goWeek_21 : decode prog_14_method_56_code 21 = .ok (.aload_n 0, 1) := by decide +kernel
theorem d_M_goWeek_25 : decode prog_14_method_56_code 25 = .ok (.iload_n 2, 1) := by decide +kernel
theorem d_M_goWeek_27 : decode prog_14_method_56_code 27 = .ok (.aload_n 0, 1) := by decide +kernel
theorem d_M_goWeek_28 : decode prog_14_method_56_code 28 = .ok (.iload_n 2, 1) := by decide +kernel
theorem d_M_goWeek_29 : decode prog_14_method_56_code 29 = .ok (.iload_n 1, 1) := by decide +kernel
theorem d_M_goWeek_30 : decode prog_14_method_56_code 30 = .ok (.invokevirtual 346, 3) := by decide +kernel
theorem d_M_goWeek_33 : decode prog_14_method_56_code 33 = .ok (.iadd, 1) := by decide +kernel
theorem d_M_goWeek_34 : decode prog_14_method_56_code 34 = .ok (.aload_n 0, 1) := by decide +kernel
theorem d_M_goWeek_38 : decode prog_14_method_56_code 38 = .ok (.invokevirtual 358, 3) := by decide +kernel
theorem d_M_goWeek_42 : decode prog_14_method_56_code 42 = .ok (.iinc 2 1, 3) := by decide +kernel
theorem d_M_goWeek_45 : decode prog_14_method_56_code 45 = .ok (.goto (-38), 3) := by decide +kernel
theorem d_M_goWeek_41 : decode prog_14_method_56_code 41 = .ok (.iastore, 1) := by decide +kernel
theorem d_M_goWeek_35 : decode prog_14_method_56_code 35 = .ok (.getfield 93, 3) := by decide +kernel
theorem d_M_goWeek_22 : decode prog_14_method_56_code 22 = .ok (.getfield 32, 3) := by decide +kernel
theorem d_M_goWeek_16 : decode prog_14_method_56_code 16 = .ok (.getfield 32, 3) := by decide +kernel
theorem d_M_goWeek_12 : decode prog_14_method_56_code 12 = .ok (.if_icmp .ge 36, 3) := by decide +kernel
theorem d_M_goWeek_9 : decode prog_14_method_56_code 9 = .ok (.getfield 7, 3) := by decide +kernel
theorem d_M_goWeek_26 : decode prog_14_method_56_code 26 = .ok (.iaload, 1) := by decide +kernel
set_option maxRecDepth 10000 in
set_option maxHeartbeats 4000000 in
theorem W_M_goWeek_7 {q : QT} {z : ZT} {ν : Ml} {f5 : Int32} {k : Mm → Option (Mm)} (C : Ctx sdM q z prog_14_method_56_code "BesideTomModel" 3 6 none) (hk : ∀ (me_ : Mm), R sdM q z 3 (φVm ν) (k me_) me_ ν 48 [(0, .ref (q.2.2.1 0))] []) : ∀ (n : Nat) (s4 : Int32) (μ6 : Mm), R sdM q z 3 (φVm ν) (L_M_goWeek_7 f5 k n s4 μ6) μ6 ν 7 [(2, .int s4), (0, .ref (q.2.2.1 0)), (1, .int f5)] [] := by
  intro n
  induction n with
  | zero =>
    intros
    exact R_none
  | succ n ih =>
    intro s4 μ6
    rw [L_M_goWeek_7]
    refine R_iload_n C 0 d_M_goWeek_7 rfl rfl ?_
    refine R_aload_n C 1 d_M_goWeek_8 rfl rfl ?_
    refine gf_M_pupils C fl_M_7 d_M_goWeek_9 ?_
    refine R_icmp_ge C d_M_goWeek_12 (tgt := 48) (by decide) ?_ ?_
    · skip
      exact R_sub [1] rfl (hk μ6)
    · skip
      refine R_aload_n C 1 d_M_goWeek_15 rfl rfl ?_
      refine gf_M_knew C fl_M_32 d_M_goWeek_16 ?_
      refine R_iload_n C 0 d_M_goWeek_19 rfl rfl ?_
      refine R_aload_n C 1 d_M_goWeek_20 rfl rfl ?_
      refine R_aload_n C 1 d_M_goWeek_21 rfl rfl ?_
      refine gf_M_knew C fl_M_32 d_M_goWeek_22 ?_
      refine R_iload_n C 0 d_M_goWeek_25 rfl rfl ?_
      refine R_iald C mm_7 (mc_7 q _ _) d_M_goWeek_26 (fun v7 => ?_)
      refine R_aload_n C 1 d_M_goWeek_27 rfl rfl ?_
      refine R_iload_n C 0 d_M_goWeek_28 rfl rfl ?_
      refine R_iload_n C 2 d_M_goWeek_29 rfl rfl ?_
      refine R_bind (fun v8 h9 => ?_)
      refine R_callV C mm_0 (mc_0 q _ _) rfl cf_M_learnsBy rfl ml_M_346 im_M_learnsBy sl_M_M_learnsBy_M_learnsBy (c_M_learnsBy (gk C) h9) (by decide) (by decide) rfl rfl (Nat.le_of_ble_eq_true rfl) d_M_goWeek_30 ?_
      refine R_iadd C d_M_goWeek_33 ?_
      refine R_aload_n C 1 d_M_goWeek_34 rfl rfl ?_
      refine gf_M_mostKnown C fl_M_93 d_M_goWeek_35 ?_
      refine R_bind (fun v10 h11 => ?_)
      refine R_callV C mm_0 (mc_0 q _ _) rfl cf_M_least rfl ml_M_358 im_M_least sl_M_M_least_M_least (c_M_least (gk C) h11) (by decide) (by decide) rfl rfl (Nat.le_of_ble_eq_true rfl) d_M_goWeek_38 ?_
      refine R_iast C mm_7 (fun h => mc_7 q h _) d_M_goWeek_41 (fun μ12 => ?_)
      refine R_iinc C 0 d_M_goWeek_42 rfl (iinc_v _ (v := 1) (by decide +kernel)) (lv' := [(2, .int (s4 + 1)), (0, .ref (q.2.2.1 0)), (1, .int f5)]) (by decide) rfl ?_
      refine R_goto C d_M_goWeek_45 (tgt := 7) (by decide) ?_
      exact R_sub [0, 1, 2] rfl (ih (s4 + 1) μ12)
theorem d_M_goWeek_48 : decode prog_14_method_56_code 48 = .ok (.aload_n 0, 1) := by decide +kernel
theorem d_M_goWeek_49 : decode prog_14_method_56_code 49 = .ok (.aload_n 0, 1) := by decide +kernel
theorem d_M_goWeek_50 : decode prog_14_method_56_code 50 = .ok (.aload_n 0, 1) := by decide +kernel
theorem d_M_goWeek_54 : decode prog_14_method_56_code 54 = .ok (.iconst 1, 1) := by decide +kernel
theorem d_M_goWeek_55 : decode prog_14_method_56_code 55 = .ok (.iadd, 1) := by decide +kernel
theorem d_M_goWeek_56 : decode prog_14_method_56_code 56 = .ok (.bipush 99, 2) := by decide +kernel
theorem d_M_goWeek_58 : decode prog_14_method_56_code 58 = .ok (.invokevirtual 358, 3) := by decide +kernel
theorem d_M_goWeek_64 : decode prog_14_method_56_code 64 = .ok (.aload_n 0, 1) := by decide +kernel
theorem d_M_goWeek_65 : decode prog_14_method_56_code 65 = .ok (.dup, 1) := by decide +kernel
theorem d_M_goWeek_69 : decode prog_14_method_56_code 69 = .ok (.iconst 1, 1) := by decide +kernel
theorem d_M_goWeek_70 : decode prog_14_method_56_code 70 = .ok (.iadd, 1) := by decide +kernel
theorem d_M_goWeek_74 : decode prog_14_method_56_code 74 = .ok (.return_, 1) := by decide +kernel
theorem d_M_goWeek_66 : decode prog_14_method_56_code 66 = .ok (.getfield 19, 3) := by decide +kernel
theorem d_M_goWeek_51 : decode prog_14_method_56_code 51 = .ok (.getfield 16, 3) := by decide +kernel
theorem d_M_goWeek_61 : decode prog_14_method_56_code 61 = .ok (.putfield 16, 3) := by decide +kernel
theorem d_M_goWeek_71 : decode prog_14_method_56_code 71 = .ok (.putfield 19, 3) := by decide +kernel
set_option maxRecDepth 10000 in
set_option maxHeartbeats 4000000 in
theorem w_M_goWeek {q : QT} {z : ZT} {μ : Mm} {ν : Ml} (C : Ctx sdM q z prog_14_method_56_code "BesideTomModel" 3 6 none) : R sdM q z 3 (φVm ν) (F_M_goWeek μ) μ ν 0 [(0, .ref (q.2.2.1 0))] [] := by
  unfold F_M_goWeek
  refine R_aload_n C 0 d_M_goWeek_0 rfl rfl ?_
  refine R_bind (fun r_ h3 => ?_)
  obtain ⟨v1, μ2⟩ := r_
  refine R_callV C mm_0 (mc_0 q _ _) rfl cf_M_noise rfl ml_M_251 im_M_noise sl_M_M_noise_M_noise (c_M_noise (gk C) h3) (by decide) (by decide) rfl rfl (Nat.le_of_ble_eq_true rfl) d_M_goWeek_1 ?_
  refine R_istore_n C (lv' := [(1, .int v1), (0, .ref (q.2.2.1 0))]) d_M_goWeek_4 rfl (by decide) rfl ?_
  refine R_iconst C d_M_goWeek_5 (v := 0) (by decide +kernel) ?_
  refine R_istore_n C (lv' := [(2, .int 0), (1, .int v1), (0, .ref (q.2.2.1 0))]) d_M_goWeek_6 rfl (by decide) rfl ?_
  refine R_sub [0, 2, 1] rfl ?_
  refine W_M_goWeek_7 C ?_ fu _ _
  intro μ13
  refine R_aload_n C 0 d_M_goWeek_48 rfl rfl ?_
  refine R_aload_n C 0 d_M_goWeek_49 rfl rfl ?_
  refine R_aload_n C 0 d_M_goWeek_50 rfl rfl ?_
  refine gf_M_worn C fl_M_16 d_M_goWeek_51 ?_
  refine R_iconst C d_M_goWeek_54 (v := 1) (by decide +kernel) ?_
  refine R_iadd C d_M_goWeek_55 ?_
  refine R_bipush C d_M_goWeek_56 (v := 99) (by decide +kernel) ?_
  refine R_bind (fun v14 h15 => ?_)
  refine R_callV C mm_0 (mc_0 q _ _) rfl cf_M_least rfl ml_M_358 im_M_least sl_M_M_least_M_least (c_M_least (gk C) h15) (by decide) (by decide) rfl rfl (Nat.le_of_ble_eq_true rfl) d_M_goWeek_58 ?_
  refine pf_M_worn C fl_M_16 d_M_goWeek_61 (fun μ16 => ?_)
  refine R_aload_n C 0 d_M_goWeek_64 rfl rfl ?_
  refine R_dup C d_M_goWeek_65 rfl ?_
  refine gf_M_weeks C fl_M_19 d_M_goWeek_66 ?_
  refine R_iconst C d_M_goWeek_69 (v := 1) (by decide +kernel) ?_
  refine R_iadd C d_M_goWeek_70 ?_
  refine pf_M_weeks C fl_M_19 d_M_goWeek_71 (fun μ17 => ?_)
  exact R_vret C rfl d_M_goWeek_74
theorem c_M_goWeek {q : QT} (hg : GOk sdM q) {μ : Mm} {ν : Ml} {o : Mm} (ho : F_M_goWeek μ = some o) : Ct sdM q y_M_goWeek prog_14_method_56_code 3 none 6 [.ref (q.2.2.1 0)] μ ν ((φVm ν) o).1 ((φVm ν) o).2.1 ((φVm ν) o).2.2 := Ct_of rfl hg (fun z C => w_M_goWeek C) (Nat.le_of_ble_eq_true rfl) ho
def L_M_goesText_15 (f4 : Int32) (k : Mm → Option (Int32 × Mm)) : Nat → Int32 → Mm → Option (Int32 × Mm)
  | 0, _, _ => none
  | n + 1, s3, μ5 => (F_M_takesClause ((10 * f4) + s3) μ5).bind fun p_ => match p_ with | (v6, μ7) => (if v6 = 0 then some (0, μ7) else (wrI μ7 15 6 f4 (s3 + 1)).bind fun μ9 => (if (μ9 0 12) = (μ9 0 11) then some (1, μ9) else (if (s3 + 1) = 10 then k μ9 else (F_M_takes 59 μ9).bind fun p_ => match p_ with | (v10, μ11) => (if v10 = 0 then k μ11 else L_M_goesText_15 f4 k n (s3 + 1) μ11))))
def F_M_goesText (a1 : Int32) (μ : Mm) : Option (Int32 × Mm) := lt_ (up2 μ 0 12 0) fun μ1 => lt_ (up2 μ1 0 22 (100 * a1)) fun μ2 => L_M_goesText_15 a1 (fun (μ13 : Mm) => some (0, μ13)) fu 0 μ2
theorem d_M_goesText_0 : decode prog_14_method_35_code 0 = .ok (.aload_n 0, 1) := by decide +kernel
theorem d_M_goesText_1 : decode prog_14_method_35_code 1 = .ok (.iconst 0, 1) := by decide +kernel
theorem d_M_goesText_5 : decode prog_14_method_35_code 5 = .ok (.aload_n 0, 1) := by decide +kernel
theorem d_M_goesText_6 : decode prog_14_method_35_code 6 = .ok (.bipush 100, 2) := by decide +kernel
theorem d_M_goesText_8 : decode prog_14_method_35_code 8 = .ok (.iload_n 1, 1) := by decide +kernel
theorem d_M_goesText_9 : decode prog_14_method_35_code 9 = .ok (.imul, 1) := by decide +kernel
theorem d_M_goesText_13 : decode prog_14_method_35_code 13 = .ok (.iconst 0, 1) := by decide +kernel
theorem d_M_goesText_14 : decode prog_14_method_35_code 14 = .ok (.istore_n 2, 1) := by decide +kernel
theorem d_M_goesText_15 : decode prog_14_method_35_code 15 = .ok (.aload_n 0, 1) := by decide +kernel
theorem d_M_goesText_16 : decode prog_14_method_35_code 16 = .ok (.bipush 10, 2) := by decide +kernel
theorem d_M_goesText_18 : decode prog_14_method_35_code 18 = .ok (.iload_n 1, 1) := by decide +kernel
theorem d_M_goesText_19 : decode prog_14_method_35_code 19 = .ok (.imul, 1) := by decide +kernel
theorem d_M_goesText_20 : decode prog_14_method_35_code 20 = .ok (.iload_n 2, 1) := by decide +kernel
theorem d_M_goesText_21 : decode prog_14_method_35_code 21 = .ok (.iadd, 1) := by decide +kernel
theorem d_M_goesText_22 : decode prog_14_method_35_code 22 = .ok (.invokevirtual 296, 3) := by decide +kernel
theorem d_M_goesText_30 : decode prog_14_method_35_code 30 = .ok (.iinc 2 1, 3) := by decide +kernel
theorem d_M_goesText_33 : decode prog_14_method_35_code 33 = .ok (.aload_n 0, 1) := by decide +kernel
theorem d_M_goesText_37 : decode prog_14_method_35_code 37 = .ok (.iload_n 1, 1) := by decide +kernel
theorem d_M_goesText_38 : decode prog_14_method_35_code 38 = .ok (.iload_n 2, 1) := by decide +kernel
theorem d_M_goesText_40 : decode prog_14_method_35_code 40 = .ok (.aload_n 0, 1) := by decide +kernel
theorem d_M_goesText_44 : decode prog_14_method_35_code 44 = .ok (.aload_n 0, 1) := by decide +kernel
theorem d_M_goesText_53 : decode prog_14_method_35_code 53 = .ok (.iload_n 2, 1) := by decide +kernel
theorem d_M_goesText_54 : decode prog_14_method_35_code 54 = .ok (.bipush 10, 2) := by decide +kernel
theorem d_M_goesText_59 : decode prog_14_method_35_code 59 = .ok (.aload_n 0, 1) := by decide +kernel
theorem d_M_goesText_60 : decode prog_14_method_35_code 60 = .ok (.bipush 59, 2) := by decide +kernel
theorem d_M_goesText_62 : decode prog_14_method_35_code 62 = .ok (.invokevirtual 258, 3) := by decide +kernel
theorem d_M_goesText_65 : decode prog_14_method_35_code 65 = .ok (.ifCond .ne (-50), 3) := by decide +kernel
theorem d_M_goesText_56 : decode prog_14_method_35_code 56 = .ok (.if_icmp .eq 12, 3) := by decide +kernel
theorem d_M_goesText_51 : decode prog_14_method_35_code 51 = .ok (.iconst 1, 1) := by decide +kernel
theorem d_M_goesText_52 : decode prog_14_method_35_code 52 = .ok (.ireturn, 1) := by decide +kernel
theorem d_M_goesText_48 : decode prog_14_method_35_code 48 = .ok (.if_icmp .ne 5, 3) := by decide +kernel
theorem d_M_goesText_45 : decode prog_14_method_35_code 45 = .ok (.getfield 44, 3) := by decide +kernel
theorem d_M_goesText_41 : decode prog_14_method_35_code 41 = .ok (.getfield 47, 3) := by decide +kernel
theorem d_M_goesText_39 : decode prog_14_method_35_code 39 = .ok (.iastore, 1) := by decide +kernel
theorem d_M_goesText_34 : decode prog_14_method_35_code 34 = .ok (.getfield 56, 3) := by decide +kernel
theorem d_M_goesText_28 : decode prog_14_method_35_code 28 = .ok (.iconst 0, 1) := by decide +kernel
theorem d_M_goesText_29 : decode prog_14_method_35_code 29 = .ok (.ireturn, 1) := by decide +kernel
theorem d_M_goesText_25 : decode prog_14_method_35_code 25 = .ok (.ifCond .ne 5, 3) := by decide +kernel
set_option maxRecDepth 10000 in
set_option maxHeartbeats 4000000 in
theorem W_M_goesText_15 {q : QT} {z : ZT} {ν : Ml} {f4 : Int32} {k : Mm → Option (Int32 × Mm)} (C : Ctx sdM q z prog_14_method_35_code "BesideTomModel" 3 6 (some (FieldType.boolean))) (hk : ∀ (me_ : Mm), R sdM q z 3 (φIm ν) (k me_) me_ ν 68 [] []) : ∀ (n : Nat) (s3 : Int32) (μ5 : Mm), R sdM q z 3 (φIm ν) (L_M_goesText_15 f4 k n s3 μ5) μ5 ν 15 [(2, .int s3), (0, .ref (q.2.2.1 0)), (1, .int f4)] [] := by
  intro n
  induction n with
  | zero =>
    intros
    exact R_none
  | succ n ih =>
    intro s3 μ5
    rw [L_M_goesText_15]
    refine R_aload_n C 1 d_M_goesText_15 rfl rfl ?_
    refine R_bipush C d_M_goesText_16 (v := 10) (by decide +kernel) ?_
    refine R_iload_n C 2 d_M_goesText_18 rfl rfl ?_
    refine R_imul C d_M_goesText_19 ?_
    refine R_iload_n C 0 d_M_goesText_20 rfl rfl ?_
    refine R_iadd C d_M_goesText_21 ?_
    refine R_bind (fun r_ h8 => ?_)
    obtain ⟨v6, μ7⟩ := r_
    refine R_callV C mm_0 (mc_0 q _ _) rfl cf_M_takesClause rfl ml_M_296 im_M_takesClause sl_M_M_takesClause_M_takesClause (c_M_takesClause (gk C) h8) (by decide) (by decide) rfl rfl (Nat.le_of_ble_eq_true rfl) d_M_goesText_22 ?_
    refine R_if_ne C d_M_goesText_25 (tgt := 30) (by decide) ?_ ?_
    · skip
      refine R_iinc C 0 d_M_goesText_30 rfl (iinc_v _ (v := 1) (by decide +kernel)) (lv' := [(2, .int (s3 + 1)), (0, .ref (q.2.2.1 0)), (1, .int f4)]) (by decide) rfl ?_
      refine R_aload_n C 1 d_M_goesText_33 rfl rfl ?_
      refine gf_M_clauses C fl_M_56 d_M_goesText_34 ?_
      refine R_iload_n C 2 d_M_goesText_37 rfl rfl ?_
      refine R_iload_n C 0 d_M_goesText_38 rfl rfl ?_
      refine R_iast C mm_15 (fun h => mc_15 q h _) d_M_goesText_39 (fun μ9 => ?_)
      refine R_aload_n C 1 d_M_goesText_40 rfl rfl ?_
      refine gf_M_at C fl_M_47 d_M_goesText_41 ?_
      refine R_aload_n C 1 d_M_goesText_44 rfl rfl ?_
      refine gf_M_fed C fl_M_44 d_M_goesText_45 ?_
      refine R_icmp_ne C d_M_goesText_48 (tgt := 53) (by decide) ?_ ?_
      · skip
        refine R_iload_n C 0 d_M_goesText_53 rfl rfl ?_
        refine R_bipush C d_M_goesText_54 (v := 10) (by decide +kernel) ?_
        refine R_icmp_eq C d_M_goesText_56 (tgt := 68) (by decide) ?_ ?_
        · skip
          exact R_sub [] rfl (hk μ9)
        · skip
          refine R_aload_n C 1 d_M_goesText_59 rfl rfl ?_
          refine R_bipush C d_M_goesText_60 (v := 59) (by decide +kernel) ?_
          refine R_bind (fun r_ h12 => ?_)
          obtain ⟨v10, μ11⟩ := r_
          refine R_callV C mm_0 (mc_0 q _ _) rfl cf_M_takes rfl ml_M_258 im_M_takes sl_M_M_takes_M_takes (c_M_takes (gk C) h12) (by decide) (by decide) rfl rfl (Nat.le_of_ble_eq_true rfl) d_M_goesText_62 ?_
          refine R_if_ne C d_M_goesText_65 (tgt := 15) (by decide) ?_ ?_
          · skip
            exact R_sub [0, 1, 2] rfl (ih (s3 + 1) μ11)
          · skip
            exact R_sub [] rfl (hk μ11)
      · skip
        refine R_iconst C d_M_goesText_51 (v := 1) (by decide +kernel) ?_
        exact R_zret C (by decide) rfl d_M_goesText_52
    · skip
      refine R_iconst C d_M_goesText_28 (v := 0) (by decide +kernel) ?_
      exact R_zret C (by decide) rfl d_M_goesText_29
theorem d_M_goesText_68 : decode prog_14_method_35_code 68 = .ok (.iconst 0, 1) := by decide +kernel
theorem d_M_goesText_69 : decode prog_14_method_35_code 69 = .ok (.ireturn, 1) := by decide +kernel
theorem d_M_goesText_2 : decode prog_14_method_35_code 2 = .ok (.putfield 47, 3) := by decide +kernel
theorem d_M_goesText_10 : decode prog_14_method_35_code 10 = .ok (.putfield 77, 3) := by decide +kernel
set_option maxRecDepth 10000 in
set_option maxHeartbeats 4000000 in
theorem w_M_goesText {q : QT} {z : ZT} {a1 : Int32} {μ : Mm} {ν : Ml} (C : Ctx sdM q z prog_14_method_35_code "BesideTomModel" 3 6 (some (FieldType.boolean))) : R sdM q z 3 (φIm ν) (F_M_goesText a1 μ) μ ν 0 [(0, .ref (q.2.2.1 0)), (1, .int a1)] [] := by
  unfold F_M_goesText
  refine R_aload_n C 0 d_M_goesText_0 rfl rfl ?_
  refine R_iconst C d_M_goesText_1 (v := 0) (by decide +kernel) ?_
  refine pf_M_at C fl_M_47 d_M_goesText_2 (fun μ1 => ?_)
  refine R_aload_n C 0 d_M_goesText_5 rfl rfl ?_
  refine R_bipush C d_M_goesText_6 (v := 100) (by decide +kernel) ?_
  refine R_iload_n C 1 d_M_goesText_8 rfl rfl ?_
  refine R_imul C d_M_goesText_9 ?_
  refine pf_M_signs C fl_M_77 d_M_goesText_10 (fun μ2 => ?_)
  refine R_iconst C d_M_goesText_13 (v := 0) (by decide +kernel) ?_
  refine R_istore_n C (lv' := [(2, .int 0), (0, .ref (q.2.2.1 0)), (1, .int a1)]) d_M_goesText_14 rfl (by decide) rfl ?_
  refine R_sub [0, 1, 2] rfl ?_
  refine W_M_goesText_15 C ?_ fu _ _
  intro μ13
  refine R_iconst C d_M_goesText_68 (v := 0) (by decide +kernel) ?_
  exact R_zret C (by decide) rfl d_M_goesText_69
theorem c_M_goesText {q : QT} (hg : GOk sdM q) {a1 : Int32} {μ : Mm} {ν : Ml} {o : Int32 × Mm} (ho : F_M_goesText a1 μ = some o) : Ct sdM q y_M_goesText prog_14_method_35_code 3 (some (FieldType.boolean)) 6 [.ref (q.2.2.1 0), .int a1] μ ν ((φIm ν) o).1 ((φIm ν) o).2.1 ((φIm ν) o).2.2 := Ct_of rfl hg (fun z C => w_M_goesText C) (Nat.le_of_ble_eq_true rfl) ho
def L_M_isHeard_15 (f3 : Int32) (f4 : Int32) (k : Int32 → Mm → Option (Int32 × Mm)) : Nat → Int32 → Int32 → Mm → Option (Int32 × Mm)
  | 0, _, _, _ => none
  | n + 1, s1, s2, μ5 => (if (μ5 0 34) ≤ s2 then k s1 μ5 else (if s1 = 0 then k s1 μ5 else (rdI (μ5 36) 5 s2).bind fun v6 => (F_M_least ((μ5 0 2) + v6) 99).bind fun v7 => lt_ (up2 μ5 0 2 v7) fun μ9 => (rdI (μ9 36) 5 s2).bind fun v10 => lt_ (up2 μ9 0 3 ((μ9 0 3) + v10)) fun μ11 => (F_M_noise μ11).bind fun p_ => match p_ with | (v12, μ13) => (rdI (μ13 35) 5 s2).bind fun v15 => jn (α := Int32) (fun K19 => (if v12 = v15 then K19 1 else K19 0)) (fun (j16 : Int32) => lt_ (up2 μ13 0 2 f3) fun μ17 => lt_ (up2 μ17 0 3 f4) fun μ18 => L_M_isHeard_15 f3 f4 k n j16 (s2 + 1) μ18)))
def F_M_isHeard (μ : Mm) : Option (Int32 × Mm) := L_M_isHeard_15 (μ 0 2) (μ 0 3) (fun (x20 : Int32) (μ21 : Mm) => (rZ x20).bind fun r_ => some (r_, μ21)) fu 1 0 μ
theorem d_M_isHeard_0 : decode prog_14_method_78_code 0 = .ok (.iconst 1, 1) := by decide +kernel
theorem d_M_isHeard_1 : decode prog_14_method_78_code 1 = .ok (.istore_n 1, 1) := by decide +kernel
theorem d_M_isHeard_2 : decode prog_14_method_78_code 2 = .ok (.aload_n 0, 1) := by decide +kernel
theorem d_M_isHeard_6 : decode prog_14_method_78_code 6 = .ok (.istore_n 2, 1) := by decide +kernel
theorem d_M_isHeard_7 : decode prog_14_method_78_code 7 = .ok (.aload_n 0, 1) := by decide +kernel
theorem d_M_isHeard_11 : decode prog_14_method_78_code 11 = .ok (.istore_n 3, 1) := by decide +kernel
theorem d_M_isHeard_12 : decode prog_14_method_78_code 12 = .ok (.iconst 0, 1) := by decide +kernel
theorem d_M_isHeard_13 : decode prog_14_method_78_code 13 = .ok (.istore 4, 2) := by decide +kernel
theorem d_M_isHeard_15 : decode prog_14_method_78_code 15 = .ok (.iload 4, 2) := by decide +kernel
theorem d_M_isHeard_17 : decode prog_14_method_78_code 17 = .ok (.aload_n 0, 1) := by decide +kernel
theorem d_M_isHeard_24 : decode prog_14_method_78_code 24 = .ok (.iload_n 1, 1) := by decide +kernel
theorem d_M_isHeard_28 : decode prog_14_method_78_code 28 = .ok (.aload_n 0, 1) := by decide +kernel
theorem d_M_isHeard_29 : decode prog_14_method_78_code 29 = .ok (.aload_n 0, 1) := by decide +kernel
theorem d_M_isHeard_30 : decode prog_14_method_78_code 30 = .ok (.aload_n 0, 1) := by decide +kernel
theorem d_M_isHeard_34 : decode prog_14_method_78_code 34 = .ok (.aload_n 0, 1) := by decide +kernel
theorem d_M_isHeard_38 : decode prog_14_method_78_code 38 = .ok (.iload 4, 2) := by decide +kernel
theorem d_M_isHeard_41 : decode prog_14_method_78_code 41 = .ok (.iadd, 1) := by decide +kernel
theorem d_M_isHeard_42 : decode prog_14_method_78_code 42 = .ok (.bipush 99, 2) := by decide +kernel
theorem d_M_isHeard_44 : decode prog_14_method_78_code 44 = .ok (.invokevirtual 358, 3) := by decide +kernel
theorem d_M_isHeard_50 : decode prog_14_method_78_code 50 = .ok (.aload_n 0, 1) := by decide +kernel
theorem d_M_isHeard_51 : decode prog_14_method_78_code 51 = .ok (.dup, 1) := by decide +kernel
theorem d_M_isHeard_55 : decode prog_14_method_78_code 55 = .ok (.aload_n 0, 1) := by decide +kernel
theorem d_M_isHeard_59 : decode prog_14_method_78_code 59 = .ok (.iload 4, 2) := by decide +kernel
theorem d_M_isHeard_62 : decode prog_14_method_78_code 62 = .ok (.iadd, 1) := by decide +kernel
theorem d_M_isHeard_66 : decode prog_14_method_78_code 66 = .ok (.aload_n 0, 1) := by decide +kernel
theorem d_M_isHeard_67 : decode prog_14_method_78_code 67 = .ok (.invokevirtual 251, 3) := by decide +kernel
theorem d_M_isHeard_70 : decode prog_14_method_78_code 70 = .ok (.aload_n 0, 1) := by decide +kernel
theorem d_M_isHeard_74 : decode prog_14_method_78_code 74 = .ok (.iload 4, 2) := by decide +kernel
theorem d_M_isHeard_84 : decode prog_14_method_78_code 84 = .ok (.iconst 0, 1) := by decide +kernel
theorem d_M_isHeard_80 : decode prog_14_method_78_code 80 = .ok (.iconst 1, 1) := by decide +kernel
theorem d_M_isHeard_81 : decode prog_14_method_78_code 81 = .ok (.goto 4, 3) := by decide +kernel
theorem d_M_isHeard_77 : decode prog_14_method_78_code 77 = .ok (.if_icmp .ne 7, 3) := by decide +kernel
theorem d_M_isHeard_85 : decode prog_14_method_78_code 85 = .ok (.istore_n 1, 1) := by decide +kernel
theorem d_M_isHeard_86 : decode prog_14_method_78_code 86 = .ok (.aload_n 0, 1) := by decide +kernel
theorem d_M_isHeard_87 : decode prog_14_method_78_code 87 = .ok (.iload_n 2, 1) := by decide +kernel
theorem d_M_isHeard_91 : decode prog_14_method_78_code 91 = .ok (.aload_n 0, 1) := by decide +kernel
theorem d_M_isHeard_92 : decode prog_14_method_78_code 92 = .ok (.iload_n 3, 1) := by decide +kernel
theorem d_M_isHeard_96 : decode prog_14_method_78_code 96 = .ok (.iinc 4 1, 3) := by decide +kernel
theorem d_M_isHeard_99 : decode prog_14_method_78_code 99 = .ok (.goto (-84), 3) := by decide +kernel
theorem d_M_isHeard_71 : decode prog_14_method_78_code 71 = .ok (.getfield 117, 3) := by decide +kernel
theorem d_M_isHeard_56 : decode prog_14_method_78_code 56 = .ok (.getfield 120, 3) := by decide +kernel
theorem d_M_isHeard_52 : decode prog_14_method_78_code 52 = .ok (.getfield 19, 3) := by decide +kernel
theorem d_M_isHeard_35 : decode prog_14_method_78_code 35 = .ok (.getfield 120, 3) := by decide +kernel
theorem d_M_isHeard_31 : decode prog_14_method_78_code 31 = .ok (.getfield 16, 3) := by decide +kernel
theorem d_M_isHeard_25 : decode prog_14_method_78_code 25 = .ok (.ifCond .eq 77, 3) := by decide +kernel
theorem d_M_isHeard_21 : decode prog_14_method_78_code 21 = .ok (.if_icmp .ge 81, 3) := by decide +kernel
theorem d_M_isHeard_18 : decode prog_14_method_78_code 18 = .ok (.getfield 114, 3) := by decide +kernel
theorem d_M_isHeard_40 : decode prog_14_method_78_code 40 = .ok (.iaload, 1) := by decide +kernel
theorem d_M_isHeard_47 : decode prog_14_method_78_code 47 = .ok (.putfield 16, 3) := by decide +kernel
theorem d_M_isHeard_61 : decode prog_14_method_78_code 61 = .ok (.iaload, 1) := by decide +kernel
theorem d_M_isHeard_63 : decode prog_14_method_78_code 63 = .ok (.putfield 19, 3) := by decide +kernel
theorem d_M_isHeard_76 : decode prog_14_method_78_code 76 = .ok (.iaload, 1) := by decide +kernel
theorem d_M_isHeard_88 : decode prog_14_method_78_code 88 = .ok (.putfield 16, 3) := by decide +kernel
theorem d_M_isHeard_93 : decode prog_14_method_78_code 93 = .ok (.putfield 19, 3) := by decide +kernel
set_option maxRecDepth 10000 in
set_option maxHeartbeats 4000000 in
theorem W_M_isHeard_15 {q : QT} {z : ZT} {ν : Ml} {f3 : Int32} {f4 : Int32} {k : Int32 → Mm → Option (Int32 × Mm)} (C : Ctx sdM q z prog_14_method_78_code "BesideTomModel" 5 6 (some (FieldType.boolean))) (hk : ∀ (e0_ : Int32) (me_ : Mm), R sdM q z 5 (φIm ν) (k e0_ me_) me_ ν 102 [(1, .int e0_)] []) : ∀ (n : Nat) (s1 : Int32) (s2 : Int32) (μ5 : Mm), R sdM q z 5 (φIm ν) (L_M_isHeard_15 f3 f4 k n s1 s2 μ5) μ5 ν 15 [(1, .int s1), (4, .int s2), (0, .ref (q.2.2.1 0)), (2, .int f3), (3, .int f4)] [] := by
  intro n
  induction n with
  | zero =>
    intros
    exact R_none
  | succ n ih =>
    intro s1 s2 μ5
    rw [L_M_isHeard_15]
    refine R_iload C 1 d_M_isHeard_15 rfl ?_
    refine R_aload_n C 2 d_M_isHeard_17 rfl rfl ?_
    refine gf_M_heard C fl_M_114 d_M_isHeard_18 ?_
    refine R_icmp_ge C d_M_isHeard_21 (tgt := 102) (by decide) ?_ ?_
    · skip
      exact R_sub [0] rfl (hk s1 μ5)
    · skip
      refine R_iload_n C 0 d_M_isHeard_24 rfl rfl ?_
      refine R_if_eq C d_M_isHeard_25 (tgt := 102) (by decide) ?_ ?_
      · skip
        exact R_sub [0] rfl (hk s1 μ5)
      · skip
        refine R_aload_n C 2 d_M_isHeard_28 rfl rfl ?_
        refine R_aload_n C 2 d_M_isHeard_29 rfl rfl ?_
        refine R_aload_n C 2 d_M_isHeard_30 rfl rfl ?_
        refine gf_M_worn C fl_M_16 d_M_isHeard_31 ?_
        refine R_aload_n C 2 d_M_isHeard_34 rfl rfl ?_
        refine gf_M_heardWhen C fl_M_120 d_M_isHeard_35 ?_
        refine R_iload C 1 d_M_isHeard_38 rfl ?_
        refine R_iald C mm_36 (mc_36 q _ _) d_M_isHeard_40 (fun v6 => ?_)
        refine R_iadd C d_M_isHeard_41 ?_
        refine R_bipush C d_M_isHeard_42 (v := 99) (by decide +kernel) ?_
        refine R_bind (fun v7 h8 => ?_)
        refine R_callV C mm_0 (mc_0 q _ _) rfl cf_M_least rfl ml_M_358 im_M_least sl_M_M_least_M_least (c_M_least (gk C) h8) (by decide) (by decide) rfl rfl (Nat.le_of_ble_eq_true rfl) d_M_isHeard_44 ?_
        refine pf_M_worn C fl_M_16 d_M_isHeard_47 (fun μ9 => ?_)
        refine R_aload_n C 2 d_M_isHeard_50 rfl rfl ?_
        refine R_dup C d_M_isHeard_51 rfl ?_
        refine gf_M_weeks C fl_M_19 d_M_isHeard_52 ?_
        refine R_aload_n C 2 d_M_isHeard_55 rfl rfl ?_
        refine gf_M_heardWhen C fl_M_120 d_M_isHeard_56 ?_
        refine R_iload C 1 d_M_isHeard_59 rfl ?_
        refine R_iald C mm_36 (mc_36 q _ _) d_M_isHeard_61 (fun v10 => ?_)
        refine R_iadd C d_M_isHeard_62 ?_
        refine pf_M_weeks C fl_M_19 d_M_isHeard_63 (fun μ11 => ?_)
        refine R_aload_n C 2 d_M_isHeard_66 rfl rfl ?_
        refine R_bind (fun r_ h14 => ?_)
        obtain ⟨v12, μ13⟩ := r_
        refine R_callV C mm_0 (mc_0 q _ _) rfl cf_M_noise rfl ml_M_251 im_M_noise sl_M_M_noise_M_noise (c_M_noise (gk C) h14) (by decide) (by decide) rfl rfl (Nat.le_of_ble_eq_true rfl) d_M_isHeard_67 ?_
        refine R_aload_n C 2 d_M_isHeard_70 rfl rfl ?_
        refine gf_M_heardNoise C fl_M_117 d_M_isHeard_71 ?_
        refine R_iload C 1 d_M_isHeard_74 rfl ?_
        refine R_iald C mm_35 (mc_35 q _ _) d_M_isHeard_76 (fun v15 => ?_)
        refine R_jn (fun K19 => ∀ (j16 : Int32), R sdM q z 5 (φIm ν) (K19 j16) μ13 ν 85 [(0, .ref (q.2.2.1 0)), (2, .int f3), (3, .int f4), (4, .int s2)] [.int j16]) ?_ (fun K19 hK19 => ?_)
        · intro j16
          refine R_istore_n C (lv' := [(1, .int j16), (0, .ref (q.2.2.1 0)), (2, .int f3), (3, .int f4), (4, .int s2)]) d_M_isHeard_85 rfl (by decide) rfl ?_
          refine R_aload_n C 1 d_M_isHeard_86 rfl rfl ?_
          refine R_iload_n C 2 d_M_isHeard_87 rfl rfl ?_
          refine pf_M_worn C fl_M_16 d_M_isHeard_88 (fun μ17 => ?_)
          refine R_aload_n C 1 d_M_isHeard_91 rfl rfl ?_
          refine R_iload_n C 3 d_M_isHeard_92 rfl rfl ?_
          refine pf_M_weeks C fl_M_19 d_M_isHeard_93 (fun μ18 => ?_)
          refine R_iinc C 4 d_M_isHeard_96 rfl (iinc_v _ (v := 1) (by decide +kernel)) (lv' := [(4, .int (s2 + 1)), (1, .int j16), (0, .ref (q.2.2.1 0)), (2, .int f3), (3, .int f4)]) (by decide) rfl ?_
          refine R_goto C d_M_isHeard_99 (tgt := 15) (by decide) ?_
          exact R_sub [1, 0, 2, 3, 4] rfl (ih j16 (s2 + 1) μ18)
        · skip
          refine R_icmp_ne C d_M_isHeard_77 (tgt := 84) (by decide) ?_ ?_
          · skip
            refine R_iconst C d_M_isHeard_84 (v := 0) (by decide +kernel) ?_
            exact R_sub [2, 3, 4, 1] rfl (hK19 0)
          · skip
            refine R_iconst C d_M_isHeard_80 (v := 1) (by decide +kernel) ?_
            refine R_goto C d_M_isHeard_81 (tgt := 85) (by decide) ?_
            exact R_sub [2, 3, 4, 1] rfl (hK19 1)
theorem d_M_isHeard_102 : decode prog_14_method_78_code 102 = .ok (.iload_n 1, 1) := by decide +kernel
theorem d_M_isHeard_103 : decode prog_14_method_78_code 103 = .ok (.ireturn, 1) := by decide +kernel
theorem d_M_isHeard_8 : decode prog_14_method_78_code 8 = .ok (.getfield 19, 3) := by decide +kernel
theorem d_M_isHeard_3 : decode prog_14_method_78_code 3 = .ok (.getfield 16, 3) := by decide +kernel
set_option maxRecDepth 10000 in
set_option maxHeartbeats 4000000 in
theorem w_M_isHeard {q : QT} {z : ZT} {μ : Mm} {ν : Ml} (C : Ctx sdM q z prog_14_method_78_code "BesideTomModel" 5 6 (some (FieldType.boolean))) : R sdM q z 5 (φIm ν) (F_M_isHeard μ) μ ν 0 [(0, .ref (q.2.2.1 0))] [] := by
  unfold F_M_isHeard
  refine R_iconst C d_M_isHeard_0 (v := 1) (by decide +kernel) ?_
  refine R_istore_n C (lv' := [(1, .int 1), (0, .ref (q.2.2.1 0))]) d_M_isHeard_1 rfl (by decide) rfl ?_
  refine R_aload_n C 1 d_M_isHeard_2 rfl rfl ?_
  refine gf_M_worn C fl_M_16 d_M_isHeard_3 ?_
  refine R_istore_n C (lv' := [(2, .int (μ 0 2)), (1, .int 1), (0, .ref (q.2.2.1 0))]) d_M_isHeard_6 rfl (by decide) rfl ?_
  refine R_aload_n C 2 d_M_isHeard_7 rfl rfl ?_
  refine gf_M_weeks C fl_M_19 d_M_isHeard_8 ?_
  refine R_istore_n C (lv' := [(3, .int (μ 0 3)), (2, .int (μ 0 2)), (1, .int 1), (0, .ref (q.2.2.1 0))]) d_M_isHeard_11 rfl (by decide) rfl ?_
  refine R_iconst C d_M_isHeard_12 (v := 0) (by decide +kernel) ?_
  refine R_istore C (lv' := [(4, .int 0), (3, .int (μ 0 3)), (2, .int (μ 0 2)), (1, .int 1), (0, .ref (q.2.2.1 0))]) d_M_isHeard_13 (by decide) rfl ?_
  refine R_sub [3, 0, 4, 2, 1] rfl ?_
  refine W_M_isHeard_15 C ?_ fu _ _ _
  intro x20 μ21
  refine R_iload_n C 0 d_M_isHeard_102 rfl rfl ?_
  exact R_zretG C (fun a => ⟨_, rfl, rfl⟩) d_M_isHeard_103
theorem c_M_isHeard {q : QT} (hg : GOk sdM q) {μ : Mm} {ν : Ml} {o : Int32 × Mm} (ho : F_M_isHeard μ = some o) : Ct sdM q y_M_isHeard prog_14_method_78_code 5 (some (FieldType.boolean)) 6 [.ref (q.2.2.1 0)] μ ν ((φIm ν) o).1 ((φIm ν) o).2.1 ((φIm ν) o).2.2 := Ct_of rfl hg (fun z C => w_M_isHeard C) (Nat.le_of_ble_eq_true rfl) ho
def L_M_isQuietBy_9 (f4 : Int32) (f5 : Int32) (f6 : Int32) (μ : Mm) (k : Int32 → Option (Int32 × Mm)) : Nat → Int32 → Int32 → Int32 → Option (Int32 × Mm)
  | 0, _, _, _ => none
  | n + 1, s1, s2, s3 => (if f4 ≤ s3 then k s2 else jn (α := Int32) (fun K11 => jn (α := Unit) (fun K9 => (if s2 = 0 then K9 () else (F_M_isPair (s1 - s1 / 36 * 36) μ).bind fun v7 => (if v7 = 0 then K9 () else K11 1))) (fun (_ : Unit) => K11 0)) (fun (j10 : Int32) => L_M_isQuietBy_9 f4 f5 f6 μ k n (s1 / 36) j10 (s3 + 1)))
def L_M_isQuietBy_74 (f18 : Int32) (f19 : Int32) (k : Mm → Option (Int32 × Mm)) : Nat → Int32 → Int32 → Mm → Option (Int32 × Mm)
  | 0, _, _, _ => none
  | n + 1, s16, s17, μ20 => (if f18 ≤ s17 then k μ20 else (F_M_swaps (s16 - s16 / 36 * 36) μ20).bind fun μ21 => L_M_isQuietBy_74 f18 f19 k n (s16 / 36) (s17 + 1) μ21)
def F_M_isQuietBy (a1 : Int32) (a2 : Int32) (a3 : Int32) (μ : Mm) : Option (Int32 × Mm) := L_M_isQuietBy_9 a1 a2 a3 μ (fun (x12 : Int32) => (if x12 = 0 then some (0, μ) else (F_M_save μ).bind fun μ13 => lt_ (up2 μ13 0 2 0) fun μ15 => L_M_isQuietBy_74 a1 a3 (fun (μ23 : Mm) => (F_M_noise μ23).bind fun p_ => match p_ with | (v24, μ25) => jn (α := Int32) (fun K30 => (if a3 < v24 then K30 0 else K30 1)) (fun (j27 : Int32) => (F_M_putBack μ25).bind fun μ28 => (rZ j27).bind fun r_ => some (r_, μ28))) fu a2 0 μ15)) fu a2 1 0
theorem d_M_isQuietBy_0 : decode prog_14_method_75_code 0 = .ok (.iload_n 2, 1) := by decide +kernel
theorem d_M_isQuietBy_1 : decode prog_14_method_75_code 1 = .ok (.istore 4, 2) := by decide +kernel
theorem d_M_isQuietBy_3 : decode prog_14_method_75_code 3 = .ok (.iconst 1, 1) := by decide +kernel
theorem d_M_isQuietBy_4 : decode prog_14_method_75_code 4 = .ok (.istore 5, 2) := by decide +kernel
theorem d_M_isQuietBy_6 : decode prog_14_method_75_code 6 = .ok (.iconst 0, 1) := by decide +kernel
theorem d_M_isQuietBy_7 : decode prog_14_method_75_code 7 = .ok (.istore 6, 2) := by decide +kernel
theorem d_M_isQuietBy_9 : decode prog_14_method_75_code 9 = .ok (.iload 6, 2) := by decide +kernel
theorem d_M_isQuietBy_11 : decode prog_14_method_75_code 11 = .ok (.iload_n 1, 1) := by decide +kernel
theorem d_M_isQuietBy_15 : decode prog_14_method_75_code 15 = .ok (.iload 5, 2) := by decide +kernel
theorem d_M_isQuietBy_20 : decode prog_14_method_75_code 20 = .ok (.aload_n 0, 1) := by decide +kernel
theorem d_M_isQuietBy_21 : decode prog_14_method_75_code 21 = .ok (.iload 4, 2) := by decide +kernel
theorem d_M_isQuietBy_23 : decode prog_14_method_75_code 23 = .ok (.bipush 36, 2) := by decide +kernel
theorem d_M_isQuietBy_26 : decode prog_14_method_75_code 26 = .ok (.invokevirtual 399, 3) := by decide +kernel
theorem d_M_isQuietBy_32 : decode prog_14_method_75_code 32 = .ok (.iconst 1, 1) := by decide +kernel
theorem d_M_isQuietBy_33 : decode prog_14_method_75_code 33 = .ok (.goto 4, 3) := by decide +kernel
theorem d_M_isQuietBy_29 : decode prog_14_method_75_code 29 = .ok (.ifCond .eq 7, 3) := by decide +kernel
theorem d_M_isQuietBy_25 : decode prog_14_method_75_code 25 = .ok (.irem, 1) := by decide +kernel
theorem d_M_isQuietBy_17 : decode prog_14_method_75_code 17 = .ok (.ifCond .eq 19, 3) := by decide +kernel
theorem d_M_isQuietBy_36 : decode prog_14_method_75_code 36 = .ok (.iconst 0, 1) := by decide +kernel
theorem d_M_isQuietBy_37 : decode prog_14_method_75_code 37 = .ok (.istore 5, 2) := by decide +kernel
theorem d_M_isQuietBy_39 : decode prog_14_method_75_code 39 = .ok (.iload 4, 2) := by decide +kernel
theorem d_M_isQuietBy_41 : decode prog_14_method_75_code 41 = .ok (.bipush 36, 2) := by decide +kernel
theorem d_M_isQuietBy_44 : decode prog_14_method_75_code 44 = .ok (.istore 4, 2) := by decide +kernel
theorem d_M_isQuietBy_46 : decode prog_14_method_75_code 46 = .ok (.iinc 6 1, 3) := by decide +kernel
theorem d_M_isQuietBy_49 : decode prog_14_method_75_code 49 = .ok (.goto (-40), 3) := by decide +kernel
theorem d_M_isQuietBy_43 : decode prog_14_method_75_code 43 = .ok (.idiv, 1) := by decide +kernel
theorem d_M_isQuietBy_12 : decode prog_14_method_75_code 12 = .ok (.if_icmp .ge 40, 3) := by decide +kernel
set_option maxRecDepth 10000 in
set_option maxHeartbeats 4000000 in
theorem W_M_isQuietBy_9 {q : QT} {z : ZT} {μ : Mm} {ν : Ml} {f4 : Int32} {f5 : Int32} {f6 : Int32} {k : Int32 → Option (Int32 × Mm)} (C : Ctx sdM q z prog_14_method_75_code "BesideTomModel" 7 6 (some (FieldType.boolean))) (hk : ∀ (e0_ : Int32), R sdM q z 7 (φIm ν) (k e0_) μ ν 52 [(0, .ref (q.2.2.1 0)), (1, .int f4), (2, .int f5), (3, .int f6), (5, .int e0_)] []) : ∀ (n : Nat) (s1 : Int32) (s2 : Int32) (s3 : Int32), R sdM q z 7 (φIm ν) (L_M_isQuietBy_9 f4 f5 f6 μ k n s1 s2 s3) μ ν 9 [(4, .int s1), (5, .int s2), (6, .int s3), (0, .ref (q.2.2.1 0)), (1, .int f4), (2, .int f5), (3, .int f6)] [] := by
  intro n
  induction n with
  | zero =>
    intros
    exact R_none
  | succ n ih =>
    intro s1 s2 s3
    rw [L_M_isQuietBy_9]
    refine R_iload C 2 d_M_isQuietBy_9 rfl ?_
    refine R_iload_n C 4 d_M_isQuietBy_11 rfl rfl ?_
    refine R_icmp_ge C d_M_isQuietBy_12 (tgt := 52) (by decide) ?_ ?_
    · skip
      exact R_sub [3, 4, 5, 6, 1] rfl (hk s2)
    · skip
      refine R_iload C 1 d_M_isQuietBy_15 rfl ?_
      refine R_jn (fun K11 => ∀ (j10 : Int32), R sdM q z 7 (φIm ν) (K11 j10) μ ν 37 [(0, .ref (q.2.2.1 0)), (1, .int f4), (2, .int f5), (3, .int f6), (4, .int s1), (6, .int s3)] [.int j10]) ?_ (fun K11 hK11 => ?_)
      · intro j10
        refine R_istore C (lv' := [(5, .int j10), (0, .ref (q.2.2.1 0)), (1, .int f4), (2, .int f5), (3, .int f6), (4, .int s1), (6, .int s3)]) d_M_isQuietBy_37 (by decide) rfl ?_
        refine R_iload C 5 d_M_isQuietBy_39 rfl ?_
        refine R_bipush C d_M_isQuietBy_41 (v := 36) (by decide +kernel) ?_
        refine R_idiv C d_M_isQuietBy_43 (by decide) ?_
        refine R_istore C (lv' := [(4, .int (s1 / 36)), (5, .int j10), (0, .ref (q.2.2.1 0)), (1, .int f4), (2, .int f5), (3, .int f6), (6, .int s3)]) d_M_isQuietBy_44 (by decide) rfl ?_
        refine R_iinc C 6 d_M_isQuietBy_46 rfl (iinc_v _ (v := 1) (by decide +kernel)) (lv' := [(6, .int (s3 + 1)), (4, .int (s1 / 36)), (5, .int j10), (0, .ref (q.2.2.1 0)), (1, .int f4), (2, .int f5), (3, .int f6)]) (by decide) rfl ?_
        refine R_goto C d_M_isQuietBy_49 (tgt := 9) (by decide) ?_
        exact R_sub [1, 2, 0, 3, 4, 5, 6] rfl (ih (s1 / 36) j10 (s3 + 1))
      · skip
        refine R_jn (fun K9 => R sdM q z 7 (φIm ν) (K9 ()) μ ν 36 [(0, .ref (q.2.2.1 0)), (1, .int f4), (2, .int f5), (3, .int f6), (4, .int s1), (6, .int s3)] []) ?_ (fun K9 hK9 => ?_)
        · skip
          refine R_iconst C d_M_isQuietBy_36 (v := 0) (by decide +kernel) ?_
          exact R_sub [0, 1, 2, 3, 4, 5] rfl (hK11 0)
        · skip
          refine R_if_eq C d_M_isQuietBy_17 (tgt := 36) (by decide) ?_ ?_
          · skip
            exact R_sub [3, 4, 5, 6, 0, 2] rfl (hK9)
          · skip
            refine R_aload_n C 3 d_M_isQuietBy_20 rfl rfl ?_
            refine R_iload C 0 d_M_isQuietBy_21 rfl ?_
            refine R_bipush C d_M_isQuietBy_23 (v := 36) (by decide +kernel) ?_
            refine R_irem C d_M_isQuietBy_25 (by decide) ?_
            refine R_bind (fun v7 h8 => ?_)
            refine R_callV C mm_0 (mc_0 q _ _) rfl cf_M_isPair rfl ml_M_399 im_M_isPair sl_M_M_isPair_M_isPair (c_M_isPair (gk C) h8) (by decide) (by decide) rfl rfl (Nat.le_of_ble_eq_true rfl) d_M_isQuietBy_26 ?_
            refine R_if_eq C d_M_isQuietBy_29 (tgt := 36) (by decide) ?_ ?_
            · skip
              exact R_sub [3, 4, 5, 6, 0, 2] rfl (hK9)
            · skip
              refine R_iconst C d_M_isQuietBy_32 (v := 1) (by decide +kernel) ?_
              refine R_goto C d_M_isQuietBy_33 (tgt := 37) (by decide) ?_
              exact R_sub [3, 4, 5, 6, 0, 2] rfl (hK11 1)
theorem d_M_isQuietBy_52 : decode prog_14_method_75_code 52 = .ok (.iload 5, 2) := by decide +kernel
theorem d_M_isQuietBy_59 : decode prog_14_method_75_code 59 = .ok (.aload_n 0, 1) := by decide +kernel
theorem d_M_isQuietBy_60 : decode prog_14_method_75_code 60 = .ok (.invokevirtual 371, 3) := by decide +kernel
theorem d_M_isQuietBy_63 : decode prog_14_method_75_code 63 = .ok (.aload_n 0, 1) := by decide +kernel
theorem d_M_isQuietBy_64 : decode prog_14_method_75_code 64 = .ok (.iconst 0, 1) := by decide +kernel
theorem d_M_isQuietBy_68 : decode prog_14_method_75_code 68 = .ok (.iload_n 2, 1) := by decide +kernel
theorem d_M_isQuietBy_69 : decode prog_14_method_75_code 69 = .ok (.istore 4, 2) := by decide +kernel
theorem d_M_isQuietBy_71 : decode prog_14_method_75_code 71 = .ok (.iconst 0, 1) := by decide +kernel
theorem d_M_isQuietBy_72 : decode prog_14_method_75_code 72 = .ok (.istore 6, 2) := by decide +kernel
theorem d_M_isQuietBy_74 : decode prog_14_method_75_code 74 = .ok (.iload 6, 2) := by decide +kernel
theorem d_M_isQuietBy_76 : decode prog_14_method_75_code 76 = .ok (.iload_n 1, 1) := by decide +kernel
theorem d_M_isQuietBy_80 : decode prog_14_method_75_code 80 = .ok (.aload_n 0, 1) := by decide +kernel
theorem d_M_isQuietBy_81 : decode prog_14_method_75_code 81 = .ok (.iload 4, 2) := by decide +kernel
theorem d_M_isQuietBy_83 : decode prog_14_method_75_code 83 = .ok (.bipush 36, 2) := by decide +kernel
theorem d_M_isQuietBy_86 : decode prog_14_method_75_code 86 = .ok (.invokevirtual 402, 3) := by decide +kernel
theorem d_M_isQuietBy_89 : decode prog_14_method_75_code 89 = .ok (.iload 4, 2) := by decide +kernel
theorem d_M_isQuietBy_91 : decode prog_14_method_75_code 91 = .ok (.bipush 36, 2) := by decide +kernel
theorem d_M_isQuietBy_94 : decode prog_14_method_75_code 94 = .ok (.istore 4, 2) := by decide +kernel
theorem d_M_isQuietBy_96 : decode prog_14_method_75_code 96 = .ok (.iinc 6 1, 3) := by decide +kernel
theorem d_M_isQuietBy_99 : decode prog_14_method_75_code 99 = .ok (.goto (-25), 3) := by decide +kernel
theorem d_M_isQuietBy_93 : decode prog_14_method_75_code 93 = .ok (.idiv, 1) := by decide +kernel
theorem d_M_isQuietBy_85 : decode prog_14_method_75_code 85 = .ok (.irem, 1) := by decide +kernel
theorem d_M_isQuietBy_77 : decode prog_14_method_75_code 77 = .ok (.if_icmp .ge 25, 3) := by decide +kernel
set_option maxRecDepth 10000 in
set_option maxHeartbeats 4000000 in
theorem W_M_isQuietBy_74 {q : QT} {z : ZT} {ν : Ml} {f18 : Int32} {f19 : Int32} {k : Mm → Option (Int32 × Mm)} (C : Ctx sdM q z prog_14_method_75_code "BesideTomModel" 7 6 (some (FieldType.boolean))) (hk : ∀ (me_ : Mm), R sdM q z 7 (φIm ν) (k me_) me_ ν 102 [(0, .ref (q.2.2.1 0)), (3, .int f19)] []) : ∀ (n : Nat) (s16 : Int32) (s17 : Int32) (μ20 : Mm), R sdM q z 7 (φIm ν) (L_M_isQuietBy_74 f18 f19 k n s16 s17 μ20) μ20 ν 74 [(4, .int s16), (6, .int s17), (0, .ref (q.2.2.1 0)), (1, .int f18), (3, .int f19)] [] := by
  intro n
  induction n with
  | zero =>
    intros
    exact R_none
  | succ n ih =>
    intro s16 s17 μ20
    rw [L_M_isQuietBy_74]
    refine R_iload C 1 d_M_isQuietBy_74 rfl ?_
    refine R_iload_n C 3 d_M_isQuietBy_76 rfl rfl ?_
    refine R_icmp_ge C d_M_isQuietBy_77 (tgt := 102) (by decide) ?_ ?_
    · skip
      exact R_sub [2, 4] rfl (hk μ20)
    · skip
      refine R_aload_n C 2 d_M_isQuietBy_80 rfl rfl ?_
      refine R_iload C 0 d_M_isQuietBy_81 rfl ?_
      refine R_bipush C d_M_isQuietBy_83 (v := 36) (by decide +kernel) ?_
      refine R_irem C d_M_isQuietBy_85 (by decide) ?_
      refine R_bind (fun μ21 h22 => ?_)
      refine R_callV C mm_0 (mc_0 q _ _) rfl cf_M_swaps rfl ml_M_402 im_M_swaps sl_M_M_swaps_M_swaps (c_M_swaps (gk C) h22) (by decide) (by decide) rfl rfl (Nat.le_of_ble_eq_true rfl) d_M_isQuietBy_86 ?_
      refine R_iload C 0 d_M_isQuietBy_89 rfl ?_
      refine R_bipush C d_M_isQuietBy_91 (v := 36) (by decide +kernel) ?_
      refine R_idiv C d_M_isQuietBy_93 (by decide) ?_
      refine R_istore C (lv' := [(4, .int (s16 / 36)), (6, .int s17), (0, .ref (q.2.2.1 0)), (1, .int f18), (3, .int f19)]) d_M_isQuietBy_94 (by decide) rfl ?_
      refine R_iinc C 1 d_M_isQuietBy_96 rfl (iinc_v _ (v := 1) (by decide +kernel)) (lv' := [(6, .int (s17 + 1)), (4, .int (s16 / 36)), (0, .ref (q.2.2.1 0)), (1, .int f18), (3, .int f19)]) (by decide) rfl ?_
      refine R_goto C d_M_isQuietBy_99 (tgt := 74) (by decide) ?_
      exact R_sub [1, 0, 2, 3, 4] rfl (ih (s16 / 36) (s17 + 1) μ21)
theorem d_M_isQuietBy_102 : decode prog_14_method_75_code 102 = .ok (.aload_n 0, 1) := by decide +kernel
theorem d_M_isQuietBy_103 : decode prog_14_method_75_code 103 = .ok (.invokevirtual 251, 3) := by decide +kernel
theorem d_M_isQuietBy_106 : decode prog_14_method_75_code 106 = .ok (.iload_n 3, 1) := by decide +kernel
theorem d_M_isQuietBy_114 : decode prog_14_method_75_code 114 = .ok (.iconst 0, 1) := by decide +kernel
theorem d_M_isQuietBy_110 : decode prog_14_method_75_code 110 = .ok (.iconst 1, 1) := by decide +kernel
theorem d_M_isQuietBy_111 : decode prog_14_method_75_code 111 = .ok (.goto 4, 3) := by decide +kernel
theorem d_M_isQuietBy_107 : decode prog_14_method_75_code 107 = .ok (.if_icmp .gt 7, 3) := by decide +kernel
theorem d_M_isQuietBy_115 : decode prog_14_method_75_code 115 = .ok (.istore 5, 2) := by decide +kernel
theorem d_M_isQuietBy_117 : decode prog_14_method_75_code 117 = .ok (.aload_n 0, 1) := by decide +kernel
theorem d_M_isQuietBy_118 : decode prog_14_method_75_code 118 = .ok (.invokevirtual 374, 3) := by decide +kernel
theorem d_M_isQuietBy_121 : decode prog_14_method_75_code 121 = .ok (.iload 5, 2) := by decide +kernel
theorem d_M_isQuietBy_123 : decode prog_14_method_75_code 123 = .ok (.ireturn, 1) := by decide +kernel
theorem d_M_isQuietBy_57 : decode prog_14_method_75_code 57 = .ok (.iconst 0, 1) := by decide +kernel
theorem d_M_isQuietBy_58 : decode prog_14_method_75_code 58 = .ok (.ireturn, 1) := by decide +kernel
theorem d_M_isQuietBy_54 : decode prog_14_method_75_code 54 = .ok (.ifCond .ne 5, 3) := by decide +kernel
theorem d_M_isQuietBy_65 : decode prog_14_method_75_code 65 = .ok (.putfield 16, 3) := by decide +kernel
set_option maxRecDepth 10000 in
set_option maxHeartbeats 4000000 in
theorem w_M_isQuietBy {q : QT} {z : ZT} {a1 : Int32} {a2 : Int32} {a3 : Int32} {μ : Mm} {ν : Ml} (C : Ctx sdM q z prog_14_method_75_code "BesideTomModel" 7 6 (some (FieldType.boolean))) : R sdM q z 7 (φIm ν) (F_M_isQuietBy a1 a2 a3 μ) μ ν 0 [(0, .ref (q.2.2.1 0)), (1, .int a1), (2, .int a2), (3, .int a3)] [] := by
  unfold F_M_isQuietBy
  refine R_iload_n C 2 d_M_isQuietBy_0 rfl rfl ?_
  refine R_istore C (lv' := [(4, .int a2), (0, .ref (q.2.2.1 0)), (1, .int a1), (2, .int a2), (3, .int a3)]) d_M_isQuietBy_1 (by decide) rfl ?_
  refine R_iconst C d_M_isQuietBy_3 (v := 1) (by decide +kernel) ?_
  refine R_istore C (lv' := [(5, .int 1), (4, .int a2), (0, .ref (q.2.2.1 0)), (1, .int a1), (2, .int a2), (3, .int a3)]) d_M_isQuietBy_4 (by decide) rfl ?_
  refine R_iconst C d_M_isQuietBy_6 (v := 0) (by decide +kernel) ?_
  refine R_istore C (lv' := [(6, .int 0), (5, .int 1), (4, .int a2), (0, .ref (q.2.2.1 0)), (1, .int a1), (2, .int a2), (3, .int a3)]) d_M_isQuietBy_7 (by decide) rfl ?_
  refine R_sub [2, 1, 0, 3, 4, 5, 6] rfl ?_
  refine W_M_isQuietBy_9 C ?_ fu _ _ _
  intro x12
  refine R_iload C 4 d_M_isQuietBy_52 rfl ?_
  refine R_if_ne C d_M_isQuietBy_54 (tgt := 59) (by decide) ?_ ?_
  · skip
    refine R_aload_n C 0 d_M_isQuietBy_59 rfl rfl ?_
    refine R_bind (fun μ13 h14 => ?_)
    refine R_callV C mm_0 (mc_0 q _ _) rfl cf_M_save rfl ml_M_371 im_M_save sl_M_M_save_M_save (c_M_save (gk C) h14) (by decide) (by decide) rfl rfl (Nat.le_of_ble_eq_true rfl) d_M_isQuietBy_60 ?_
    refine R_aload_n C 0 d_M_isQuietBy_63 rfl rfl ?_
    refine R_iconst C d_M_isQuietBy_64 (v := 0) (by decide +kernel) ?_
    refine pf_M_worn C fl_M_16 d_M_isQuietBy_65 (fun μ15 => ?_)
    refine R_iload_n C 2 d_M_isQuietBy_68 rfl rfl ?_
    refine R_istore C (lv' := [(4, .int a2), (0, .ref (q.2.2.1 0)), (1, .int a1), (2, .int a2), (3, .int a3), (5, .int x12)]) d_M_isQuietBy_69 (by decide) rfl ?_
    refine R_iconst C d_M_isQuietBy_71 (v := 0) (by decide +kernel) ?_
    refine R_istore C (lv' := [(6, .int 0), (4, .int a2), (0, .ref (q.2.2.1 0)), (1, .int a1), (2, .int a2), (3, .int a3), (5, .int x12)]) d_M_isQuietBy_72 (by decide) rfl ?_
    refine R_sub [1, 0, 2, 3, 5] rfl ?_
    refine W_M_isQuietBy_74 C ?_ fu _ _ _
    intro μ23
    refine R_aload_n C 0 d_M_isQuietBy_102 rfl rfl ?_
    refine R_bind (fun r_ h26 => ?_)
    obtain ⟨v24, μ25⟩ := r_
    refine R_callV C mm_0 (mc_0 q _ _) rfl cf_M_noise rfl ml_M_251 im_M_noise sl_M_M_noise_M_noise (c_M_noise (gk C) h26) (by decide) (by decide) rfl rfl (Nat.le_of_ble_eq_true rfl) d_M_isQuietBy_103 ?_
    refine R_iload_n C 1 d_M_isQuietBy_106 rfl rfl ?_
    refine R_jn (fun K30 => ∀ (j27 : Int32), R sdM q z 7 (φIm ν) (K30 j27) μ25 ν 115 [(0, .ref (q.2.2.1 0))] [.int j27]) ?_ (fun K30 hK30 => ?_)
    · intro j27
      refine R_istore C (lv' := [(5, .int j27), (0, .ref (q.2.2.1 0))]) d_M_isQuietBy_115 (by decide) rfl ?_
      refine R_aload_n C 1 d_M_isQuietBy_117 rfl rfl ?_
      refine R_bind (fun μ28 h29 => ?_)
      refine R_callV C mm_0 (mc_0 q _ _) rfl cf_M_putBack rfl ml_M_374 im_M_putBack sl_M_M_putBack_M_putBack (c_M_putBack (gk C) h29) (by decide) (by decide) rfl rfl (Nat.le_of_ble_eq_true rfl) d_M_isQuietBy_118 ?_
      refine R_iload C 0 d_M_isQuietBy_121 rfl ?_
      exact R_zretG C (fun a => ⟨_, rfl, rfl⟩) d_M_isQuietBy_123
    · skip
      refine R_icmp_gt C d_M_isQuietBy_107 (tgt := 114) (by decide) ?_ ?_
      · skip
        refine R_iconst C d_M_isQuietBy_114 (v := 0) (by decide +kernel) ?_
        exact R_sub [0] rfl (hK30 0)
      · skip
        refine R_iconst C d_M_isQuietBy_110 (v := 1) (by decide +kernel) ?_
        refine R_goto C d_M_isQuietBy_111 (tgt := 115) (by decide) ?_
        exact R_sub [0] rfl (hK30 1)
  · skip
    refine R_iconst C d_M_isQuietBy_57 (v := 0) (by decide +kernel) ?_
    exact R_zret C (by decide) rfl d_M_isQuietBy_58
theorem c_M_isQuietBy {q : QT} (hg : GOk sdM q) {a1 : Int32} {a2 : Int32} {a3 : Int32} {μ : Mm} {ν : Ml} {o : Int32 × Mm} (ho : F_M_isQuietBy a1 a2 a3 μ = some o) : Ct sdM q y_M_isQuietBy prog_14_method_75_code 7 (some (FieldType.boolean)) 6 [.ref (q.2.2.1 0), .int a1, .int a2, .int a3] μ ν ((φIm ν) o).1 ((φIm ν) o).2.1 ((φIm ν) o).2.2 := Ct_of rfl hg (fun z C => w_M_isQuietBy C) (Nat.le_of_ble_eq_true rfl) ho
def F_M_learns (a1 : Int32) (μ : Mm) : Option (Int32 × Mm) := (F_M_noise μ).bind fun p_ => match p_ with | (v1, μ2) => (F_M_learnsBy a1 v1 μ2).bind fun v4 => some (v4, μ2)
theorem d_M_learns_0 : decode prog_14_method_51_code 0 = .ok (.aload_n 0, 1) := by decide +kernel
theorem d_M_learns_1 : decode prog_14_method_51_code 1 = .ok (.iload_n 1, 1) := by decide +kernel
theorem d_M_learns_2 : decode prog_14_method_51_code 2 = .ok (.aload_n 0, 1) := by decide +kernel
theorem d_M_learns_3 : decode prog_14_method_51_code 3 = .ok (.invokevirtual 251, 3) := by decide +kernel
theorem d_M_learns_6 : decode prog_14_method_51_code 6 = .ok (.invokevirtual 346, 3) := by decide +kernel
theorem d_M_learns_9 : decode prog_14_method_51_code 9 = .ok (.ireturn, 1) := by decide +kernel
set_option maxRecDepth 10000 in
set_option maxHeartbeats 4000000 in
theorem w_M_learns {q : QT} {z : ZT} {a1 : Int32} {μ : Mm} {ν : Ml} (C : Ctx sdM q z prog_14_method_51_code "BesideTomModel" 2 6 (some (FieldType.int))) : R sdM q z 2 (φIm ν) (F_M_learns a1 μ) μ ν 0 [(0, .ref (q.2.2.1 0)), (1, .int a1)] [] := by
  unfold F_M_learns
  refine R_aload_n C 0 d_M_learns_0 rfl rfl ?_
  refine R_iload_n C 1 d_M_learns_1 rfl rfl ?_
  refine R_aload_n C 0 d_M_learns_2 rfl rfl ?_
  refine R_bind (fun r_ h3 => ?_)
  obtain ⟨v1, μ2⟩ := r_
  refine R_callV C mm_0 (mc_0 q _ _) rfl cf_M_noise rfl ml_M_251 im_M_noise sl_M_M_noise_M_noise (c_M_noise (gk C) h3) (by decide) (by decide) rfl rfl (Nat.le_of_ble_eq_true rfl) d_M_learns_3 ?_
  refine R_bind (fun v4 h5 => ?_)
  refine R_callV C mm_0 (mc_0 q _ _) rfl cf_M_learnsBy rfl ml_M_346 im_M_learnsBy sl_M_M_learnsBy_M_learnsBy (c_M_learnsBy (gk C) h5) (by decide) (by decide) rfl rfl (Nat.le_of_ble_eq_true rfl) d_M_learns_6 ?_
  exact R_iret C rfl d_M_learns_9
theorem c_M_learns {q : QT} (hg : GOk sdM q) {a1 : Int32} {μ : Mm} {ν : Ml} {o : Int32 × Mm} (ho : F_M_learns a1 μ = some o) : Ct sdM q y_M_learns prog_14_method_51_code 2 (some (FieldType.int)) 6 [.ref (q.2.2.1 0), .int a1] μ ν ((φIm ν) o).1 ((φIm ν) o).2.1 ((φIm ν) o).2.2 := Ct_of rfl hg (fun z C => w_M_learns C) (Nat.le_of_ble_eq_true rfl) ho
def F_M_move (a1 : Int32) (a2 : Int32) (μ : Mm) : Option (Int32 × Mm) := (F_M_isPupil a1 μ).bind fun v1 => (if v1 = 0 then some ((-1), μ) else (F_M_isDesk a2).bind fun v3 => (if v3 = 0 then some ((-1), μ) else (F_M_moves a1 a2 μ).bind fun μ5 => (F_M_noise μ5).bind fun p_ => match p_ with | (v7, μ8) => some (v7, μ8)))
theorem d_M_move_0 : decode prog_14_method_19_code 0 = .ok (.aload_n 0, 1) := by decide +kernel
theorem d_M_move_1 : decode prog_14_method_19_code 1 = .ok (.iload_n 1, 1) := by decide +kernel
theorem d_M_move_2 : decode prog_14_method_19_code 2 = .ok (.invokevirtual 233, 3) := by decide +kernel
theorem d_M_move_16 : decode prog_14_method_19_code 16 = .ok (.iconst (-1), 1) := by decide +kernel
theorem d_M_move_17 : decode prog_14_method_19_code 17 = .ok (.ireturn, 1) := by decide +kernel
theorem d_M_move_8 : decode prog_14_method_19_code 8 = .ok (.aload_n 0, 1) := by decide +kernel
theorem d_M_move_9 : decode prog_14_method_19_code 9 = .ok (.iload_n 2, 1) := by decide +kernel
theorem d_M_move_10 : decode prog_14_method_19_code 10 = .ok (.invokevirtual 245, 3) := by decide +kernel
theorem d_M_move_18 : decode prog_14_method_19_code 18 = .ok (.aload_n 0, 1) := by decide +kernel
theorem d_M_move_19 : decode prog_14_method_19_code 19 = .ok (.iload_n 1, 1) := by decide +kernel
theorem d_M_move_20 : decode prog_14_method_19_code 20 = .ok (.iload_n 2, 1) := by decide +kernel
theorem d_M_move_21 : decode prog_14_method_19_code 21 = .ok (.invokevirtual 248, 3) := by decide +kernel
theorem d_M_move_24 : decode prog_14_method_19_code 24 = .ok (.aload_n 0, 1) := by decide +kernel
theorem d_M_move_25 : decode prog_14_method_19_code 25 = .ok (.invokevirtual 251, 3) := by decide +kernel
theorem d_M_move_28 : decode prog_14_method_19_code 28 = .ok (.ireturn, 1) := by decide +kernel
theorem d_M_move_13 : decode prog_14_method_19_code 13 = .ok (.ifCond .ne 5, 3) := by decide +kernel
theorem d_M_move_5 : decode prog_14_method_19_code 5 = .ok (.ifCond .eq 11, 3) := by decide +kernel
set_option maxRecDepth 10000 in
set_option maxHeartbeats 4000000 in
theorem w_M_move {q : QT} {z : ZT} {a1 : Int32} {a2 : Int32} {μ : Mm} {ν : Ml} (C : Ctx sdM q z prog_14_method_19_code "BesideTomModel" 3 6 (some (FieldType.int))) : R sdM q z 3 (φIm ν) (F_M_move a1 a2 μ) μ ν 0 [(0, .ref (q.2.2.1 0)), (1, .int a1), (2, .int a2)] [] := by
  unfold F_M_move
  refine R_aload_n C 0 d_M_move_0 rfl rfl ?_
  refine R_iload_n C 1 d_M_move_1 rfl rfl ?_
  refine R_bind (fun v1 h2 => ?_)
  refine R_callV C mm_0 (mc_0 q _ _) rfl cf_M_isPupil rfl ml_M_233 im_M_isPupil sl_M_M_isPupil_M_isPupil (c_M_isPupil (gk C) h2) (by decide) (by decide) rfl rfl (Nat.le_of_ble_eq_true rfl) d_M_move_2 ?_
  refine R_if_eq C d_M_move_5 (tgt := 16) (by decide) ?_ ?_
  · skip
    refine R_iconst C d_M_move_16 (v := (-1)) (by decide +kernel) ?_
    exact R_iret C rfl d_M_move_17
  · skip
    refine R_aload_n C 0 d_M_move_8 rfl rfl ?_
    refine R_iload_n C 2 d_M_move_9 rfl rfl ?_
    refine R_bind (fun v3 h4 => ?_)
    refine R_callV C mm_0 (mc_0 q _ _) rfl cf_M_isDesk rfl ml_M_245 im_M_isDesk sl_M_M_isDesk_M_isDesk (c_M_isDesk (gk C) h4) (by decide) (by decide) rfl rfl (Nat.le_of_ble_eq_true rfl) d_M_move_10 ?_
    refine R_if_ne C d_M_move_13 (tgt := 18) (by decide) ?_ ?_
    · skip
      refine R_aload_n C 0 d_M_move_18 rfl rfl ?_
      refine R_iload_n C 1 d_M_move_19 rfl rfl ?_
      refine R_iload_n C 2 d_M_move_20 rfl rfl ?_
      refine R_bind (fun μ5 h6 => ?_)
      refine R_callV C mm_0 (mc_0 q _ _) rfl cf_M_moves rfl ml_M_248 im_M_moves sl_M_M_moves_M_moves (c_M_moves (gk C) h6) (by decide) (by decide) rfl rfl (Nat.le_of_ble_eq_true rfl) d_M_move_21 ?_
      refine R_aload_n C 0 d_M_move_24 rfl rfl ?_
      refine R_bind (fun r_ h9 => ?_)
      obtain ⟨v7, μ8⟩ := r_
      refine R_callV C mm_0 (mc_0 q _ _) rfl cf_M_noise rfl ml_M_251 im_M_noise sl_M_M_noise_M_noise (c_M_noise (gk C) h9) (by decide) (by decide) rfl rfl (Nat.le_of_ble_eq_true rfl) d_M_move_25 ?_
      exact R_iret C rfl d_M_move_28
    · skip
      refine R_iconst C d_M_move_16 (v := (-1)) (by decide +kernel) ?_
      exact R_iret C rfl d_M_move_17
theorem c_M_move {q : QT} (hg : GOk sdM q) {a1 : Int32} {a2 : Int32} {μ : Mm} {ν : Ml} {o : Int32 × Mm} (ho : F_M_move a1 a2 μ = some o) : Ct sdM q y_M_move prog_14_method_19_code 3 (some (FieldType.int)) 6 [.ref (q.2.2.1 0), .int a1, .int a2] μ ν ((φIm ν) o).1 ((φIm ν) o).2.1 ((φIm ν) o).2.2 := Ct_of rfl hg (fun z C => w_M_move C) (Nat.le_of_ble_eq_true rfl) ho
def F_M_noiseIfMoved (a1 : Int32) (a2 : Int32) (μ : Mm) : Option (Int32 × Mm) := (F_M_save μ).bind fun μ1 => (F_M_moves a1 a2 μ1).bind fun μ3 => (F_M_noise μ3).bind fun p_ => match p_ with | (v5, μ6) => (F_M_putBack μ6).bind fun μ8 => some (v5, μ8)
theorem d_M_noiseIfMoved_0 : decode prog_14_method_67_code 0 = .ok (.aload_n 0, 1) := by decide +kernel
theorem d_M_noiseIfMoved_1 : decode prog_14_method_67_code 1 = .ok (.invokevirtual 371, 3) := by decide +kernel
theorem d_M_noiseIfMoved_4 : decode prog_14_method_67_code 4 = .ok (.aload_n 0, 1) := by decide +kernel
theorem d_M_noiseIfMoved_5 : decode prog_14_method_67_code 5 = .ok (.iload_n 1, 1) := by decide +kernel
theorem d_M_noiseIfMoved_6 : decode prog_14_method_67_code 6 = .ok (.iload_n 2, 1) := by decide +kernel
theorem d_M_noiseIfMoved_7 : decode prog_14_method_67_code 7 = .ok (.invokevirtual 248, 3) := by decide +kernel
theorem d_M_noiseIfMoved_10 : decode prog_14_method_67_code 10 = .ok (.aload_n 0, 1) := by decide +kernel
theorem d_M_noiseIfMoved_11 : decode prog_14_method_67_code 11 = .ok (.invokevirtual 251, 3) := by decide +kernel
theorem d_M_noiseIfMoved_14 : decode prog_14_method_67_code 14 = .ok (.istore_n 3, 1) := by decide +kernel
theorem d_M_noiseIfMoved_15 : decode prog_14_method_67_code 15 = .ok (.aload_n 0, 1) := by decide +kernel
theorem d_M_noiseIfMoved_16 : decode prog_14_method_67_code 16 = .ok (.invokevirtual 374, 3) := by decide +kernel
theorem d_M_noiseIfMoved_19 : decode prog_14_method_67_code 19 = .ok (.iload_n 3, 1) := by decide +kernel
theorem d_M_noiseIfMoved_20 : decode prog_14_method_67_code 20 = .ok (.ireturn, 1) := by decide +kernel
set_option maxRecDepth 10000 in
set_option maxHeartbeats 4000000 in
theorem w_M_noiseIfMoved {q : QT} {z : ZT} {a1 : Int32} {a2 : Int32} {μ : Mm} {ν : Ml} (C : Ctx sdM q z prog_14_method_67_code "BesideTomModel" 4 6 (some (FieldType.int))) : R sdM q z 4 (φIm ν) (F_M_noiseIfMoved a1 a2 μ) μ ν 0 [(0, .ref (q.2.2.1 0)), (1, .int a1), (2, .int a2)] [] := by
  unfold F_M_noiseIfMoved
  refine R_aload_n C 0 d_M_noiseIfMoved_0 rfl rfl ?_
  refine R_bind (fun μ1 h2 => ?_)
  refine R_callV C mm_0 (mc_0 q _ _) rfl cf_M_save rfl ml_M_371 im_M_save sl_M_M_save_M_save (c_M_save (gk C) h2) (by decide) (by decide) rfl rfl (Nat.le_of_ble_eq_true rfl) d_M_noiseIfMoved_1 ?_
  refine R_aload_n C 0 d_M_noiseIfMoved_4 rfl rfl ?_
  refine R_iload_n C 1 d_M_noiseIfMoved_5 rfl rfl ?_
  refine R_iload_n C 2 d_M_noiseIfMoved_6 rfl rfl ?_
  refine R_bind (fun μ3 h4 => ?_)
  refine R_callV C mm_0 (mc_0 q _ _) rfl cf_M_moves rfl ml_M_248 im_M_moves sl_M_M_moves_M_moves (c_M_moves (gk C) h4) (by decide) (by decide) rfl rfl (Nat.le_of_ble_eq_true rfl) d_M_noiseIfMoved_7 ?_
  refine R_aload_n C 0 d_M_noiseIfMoved_10 rfl rfl ?_
  refine R_bind (fun r_ h7 => ?_)
  obtain ⟨v5, μ6⟩ := r_
  refine R_callV C mm_0 (mc_0 q _ _) rfl cf_M_noise rfl ml_M_251 im_M_noise sl_M_M_noise_M_noise (c_M_noise (gk C) h7) (by decide) (by decide) rfl rfl (Nat.le_of_ble_eq_true rfl) d_M_noiseIfMoved_11 ?_
  refine R_istore_n C (lv' := [(3, .int v5), (0, .ref (q.2.2.1 0)), (1, .int a1), (2, .int a2)]) d_M_noiseIfMoved_14 rfl (by decide) rfl ?_
  refine R_aload_n C 1 d_M_noiseIfMoved_15 rfl rfl ?_
  refine R_bind (fun μ8 h9 => ?_)
  refine R_callV C mm_0 (mc_0 q _ _) rfl cf_M_putBack rfl ml_M_374 im_M_putBack sl_M_M_putBack_M_putBack (c_M_putBack (gk C) h9) (by decide) (by decide) rfl rfl (Nat.le_of_ble_eq_true rfl) d_M_noiseIfMoved_16 ?_
  refine R_iload_n C 0 d_M_noiseIfMoved_19 rfl rfl ?_
  exact R_iret C rfl d_M_noiseIfMoved_20
theorem c_M_noiseIfMoved {q : QT} (hg : GOk sdM q) {a1 : Int32} {a2 : Int32} {μ : Mm} {ν : Ml} {o : Int32 × Mm} (ho : F_M_noiseIfMoved a1 a2 μ = some o) : Ct sdM q y_M_noiseIfMoved prog_14_method_67_code 4 (some (FieldType.int)) 6 [.ref (q.2.2.1 0), .int a1, .int a2] μ ν ((φIm ν) o).1 ((φIm ν) o).2.1 ((φIm ν) o).2.2 := Ct_of rfl hg (fun z C => w_M_noiseIfMoved C) (Nat.le_of_ble_eq_true rfl) ho
def F_M_noiseWithout (a1 : Int32) (μ : Mm) : Option (Int32 × Mm) := (F_M_goes a1 1 μ).bind fun μ1 => (F_M_noise μ1).bind fun p_ => match p_ with | (v3, μ4) => lt_ (up2 μ4 0 1 (μ 0 1)) fun μ6 => some (v3, μ6)
theorem d_M_noiseWithout_0 : decode prog_14_method_70_code 0 = .ok (.aload_n 0, 1) := by decide +kernel
theorem d_M_noiseWithout_4 : decode prog_14_method_70_code 4 = .ok (.istore_n 2, 1) := by decide +kernel
theorem d_M_noiseWithout_5 : decode prog_14_method_70_code 5 = .ok (.aload_n 0, 1) := by decide +kernel
theorem d_M_noiseWithout_6 : decode prog_14_method_70_code 6 = .ok (.iload_n 1, 1) := by decide +kernel
theorem d_M_noiseWithout_7 : decode prog_14_method_70_code 7 = .ok (.iconst 1, 1) := by decide +kernel
theorem d_M_noiseWithout_8 : decode prog_14_method_70_code 8 = .ok (.invokevirtual 237, 3) := by decide +kernel
theorem d_M_noiseWithout_11 : decode prog_14_method_70_code 11 = .ok (.aload_n 0, 1) := by decide +kernel
theorem d_M_noiseWithout_12 : decode prog_14_method_70_code 12 = .ok (.invokevirtual 251, 3) := by decide +kernel
theorem d_M_noiseWithout_15 : decode prog_14_method_70_code 15 = .ok (.istore_n 3, 1) := by decide +kernel
theorem d_M_noiseWithout_16 : decode prog_14_method_70_code 16 = .ok (.aload_n 0, 1) := by decide +kernel
theorem d_M_noiseWithout_17 : decode prog_14_method_70_code 17 = .ok (.iload_n 2, 1) := by decide +kernel
theorem d_M_noiseWithout_21 : decode prog_14_method_70_code 21 = .ok (.iload_n 3, 1) := by decide +kernel
theorem d_M_noiseWithout_22 : decode prog_14_method_70_code 22 = .ok (.ireturn, 1) := by decide +kernel
theorem d_M_noiseWithout_1 : decode prog_14_method_70_code 1 = .ok (.getfield 13, 3) := by decide +kernel
theorem d_M_noiseWithout_18 : decode prog_14_method_70_code 18 = .ok (.putfield 13, 3) := by decide +kernel
set_option maxRecDepth 10000 in
set_option maxHeartbeats 4000000 in
theorem w_M_noiseWithout {q : QT} {z : ZT} {a1 : Int32} {μ : Mm} {ν : Ml} (C : Ctx sdM q z prog_14_method_70_code "BesideTomModel" 4 6 (some (FieldType.int))) : R sdM q z 4 (φIm ν) (F_M_noiseWithout a1 μ) μ ν 0 [(0, .ref (q.2.2.1 0)), (1, .int a1)] [] := by
  unfold F_M_noiseWithout
  refine R_aload_n C 0 d_M_noiseWithout_0 rfl rfl ?_
  refine gf_M_gone C fl_M_13 d_M_noiseWithout_1 ?_
  refine R_istore_n C (lv' := [(2, .int (μ 0 1)), (0, .ref (q.2.2.1 0)), (1, .int a1)]) d_M_noiseWithout_4 rfl (by decide) rfl ?_
  refine R_aload_n C 1 d_M_noiseWithout_5 rfl rfl ?_
  refine R_iload_n C 2 d_M_noiseWithout_6 rfl rfl ?_
  refine R_iconst C d_M_noiseWithout_7 (v := 1) (by decide +kernel) ?_
  refine R_bind (fun μ1 h2 => ?_)
  refine R_callV C mm_0 (mc_0 q _ _) rfl cf_M_goes rfl ml_M_237 im_M_goes sl_M_M_goes_M_goes (c_M_goes (gk C) h2) (by decide) (by decide) rfl rfl (Nat.le_of_ble_eq_true rfl) d_M_noiseWithout_8 ?_
  refine R_aload_n C 1 d_M_noiseWithout_11 rfl rfl ?_
  refine R_bind (fun r_ h5 => ?_)
  obtain ⟨v3, μ4⟩ := r_
  refine R_callV C mm_0 (mc_0 q _ _) rfl cf_M_noise rfl ml_M_251 im_M_noise sl_M_M_noise_M_noise (c_M_noise (gk C) h5) (by decide) (by decide) rfl rfl (Nat.le_of_ble_eq_true rfl) d_M_noiseWithout_12 ?_
  refine R_istore_n C (lv' := [(3, .int v3), (2, .int (μ 0 1)), (0, .ref (q.2.2.1 0)), (1, .int a1)]) d_M_noiseWithout_15 rfl (by decide) rfl ?_
  refine R_aload_n C 2 d_M_noiseWithout_16 rfl rfl ?_
  refine R_iload_n C 1 d_M_noiseWithout_17 rfl rfl ?_
  refine pf_M_gone C fl_M_13 d_M_noiseWithout_18 (fun μ6 => ?_)
  refine R_iload_n C 0 d_M_noiseWithout_21 rfl rfl ?_
  exact R_iret C rfl d_M_noiseWithout_22
theorem c_M_noiseWithout {q : QT} (hg : GOk sdM q) {a1 : Int32} {μ : Mm} {ν : Ml} {o : Int32 × Mm} (ho : F_M_noiseWithout a1 μ = some o) : Ct sdM q y_M_noiseWithout prog_14_method_70_code 4 (some (FieldType.int)) 6 [.ref (q.2.2.1 0), .int a1] μ ν ((φIm ν) o).1 ((φIm ν) o).2.1 ((φIm ν) o).2.2 := Ct_of rfl hg (fun z C => w_M_noiseWithout C) (Nat.le_of_ble_eq_true rfl) ho
