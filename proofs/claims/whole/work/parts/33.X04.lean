def L_BT_tape_73 (f9 : Int32) (μ : Mm) (k : Ml → Option (Int32 × Mm × Ml)) : Nat → Int32 → Ml → Option (Int32 × Mm × Ml)
  | 0, _, _ => none
  | n + 1, s8, ν10 => (rdI (μ 22) 6 f9).bind fun v11 => (if v11 ≤ s8 then k ν10 else (rdR 15 6 f9).bind fun c12 => (wrL ν10 c12 60 s8 0).bind fun ν13 => L_BT_tape_73 f9 μ k n (s8 + 1) ν13)
def F_BT_tape (a1 : Int32) (a2 : Int32) (a3 : Int32) (μ : Mm) (ν : Ml) : Option (Int32 × Mm × Ml) := (F_BT_isTape a1).bind fun v1 => (if v1 = 0 then some ((-1), μ, ν) else (F_BT_within a2 (-1) 4).bind fun v3 => (if v3 = 0 then some ((-2), μ, ν) else jn (α := Unit) (fun K17 => (if a2 = (-1) then K17 () else (if a3 ≤ 60 then K17 () else some ((-2), μ, ν)))) (fun (_ : Unit) => jn (α := Unit) (fun K16 => (if a2 = (-1) then K16 () else (if 0 ≤ a3 then K16 () else some ((-14), μ, ν)))) (fun (_ : Unit) => (wrI μ 21 6 a1 a2).bind fun μ5 => jn (α := Int32) (fun K15 => (if a2 = (-1) then K15 0 else K15 a3)) (fun (j6 : Int32) => (wrI μ5 22 6 a1 j6).bind fun μ7 => L_BT_tape_73 a1 μ7 (fun (ν14 : Ml) => some (1, μ7, ν14)) fu 0 ν)))))
theorem d_BT_tape_0 : decode prog_1_method_42_code 0 = .ok (.iload_n 1, 1) := by decide +kernel
theorem d_BT_tape_1 : decode prog_1_method_42_code 1 = .ok (.invokestatic 276, 3) := by decide +kernel
theorem d_BT_tape_9 : decode prog_1_method_42_code 9 = .ok (.iload_n 2, 1) := by decide +kernel
theorem d_BT_tape_10 : decode prog_1_method_42_code 10 = .ok (.iconst (-1), 1) := by decide +kernel
theorem d_BT_tape_11 : decode prog_1_method_42_code 11 = .ok (.iconst 4, 1) := by decide +kernel
theorem d_BT_tape_12 : decode prog_1_method_42_code 12 = .ok (.invokestatic 76, 3) := by decide +kernel
theorem d_BT_tape_21 : decode prog_1_method_42_code 21 = .ok (.iload_n 2, 1) := by decide +kernel
theorem d_BT_tape_22 : decode prog_1_method_42_code 22 = .ok (.iconst (-1), 1) := by decide +kernel
theorem d_BT_tape_26 : decode prog_1_method_42_code 26 = .ok (.iload_n 3, 1) := by decide +kernel
theorem d_BT_tape_27 : decode prog_1_method_42_code 27 = .ok (.bipush 60, 2) := by decide +kernel
theorem d_BT_tape_32 : decode prog_1_method_42_code 32 = .ok (.bipush (-2), 2) := by decide +kernel
theorem d_BT_tape_34 : decode prog_1_method_42_code 34 = .ok (.ireturn, 1) := by decide +kernel
theorem d_BT_tape_29 : decode prog_1_method_42_code 29 = .ok (.if_icmp .le 6, 3) := by decide +kernel
theorem d_BT_tape_23 : decode prog_1_method_42_code 23 = .ok (.if_icmp .eq 12, 3) := by decide +kernel
theorem d_BT_tape_35 : decode prog_1_method_42_code 35 = .ok (.iload_n 2, 1) := by decide +kernel
theorem d_BT_tape_36 : decode prog_1_method_42_code 36 = .ok (.iconst (-1), 1) := by decide +kernel
theorem d_BT_tape_40 : decode prog_1_method_42_code 40 = .ok (.iload_n 3, 1) := by decide +kernel
theorem d_BT_tape_44 : decode prog_1_method_42_code 44 = .ok (.bipush (-14), 2) := by decide +kernel
theorem d_BT_tape_46 : decode prog_1_method_42_code 46 = .ok (.ireturn, 1) := by decide +kernel
theorem d_BT_tape_41 : decode prog_1_method_42_code 41 = .ok (.ifCond .ge 6, 3) := by decide +kernel
theorem d_BT_tape_37 : decode prog_1_method_42_code 37 = .ok (.if_icmp .eq 10, 3) := by decide +kernel
theorem d_BT_tape_47 : decode prog_1_method_42_code 47 = .ok (.aload_n 0, 1) := by decide +kernel
theorem d_BT_tape_51 : decode prog_1_method_42_code 51 = .ok (.iload_n 1, 1) := by decide +kernel
theorem d_BT_tape_52 : decode prog_1_method_42_code 52 = .ok (.iload_n 2, 1) := by decide +kernel
theorem d_BT_tape_54 : decode prog_1_method_42_code 54 = .ok (.aload_n 0, 1) := by decide +kernel
theorem d_BT_tape_58 : decode prog_1_method_42_code 58 = .ok (.iload_n 1, 1) := by decide +kernel
theorem d_BT_tape_59 : decode prog_1_method_42_code 59 = .ok (.iload_n 2, 1) := by decide +kernel
theorem d_BT_tape_60 : decode prog_1_method_42_code 60 = .ok (.iconst (-1), 1) := by decide +kernel
theorem d_BT_tape_68 : decode prog_1_method_42_code 68 = .ok (.iload_n 3, 1) := by decide +kernel
theorem d_BT_tape_64 : decode prog_1_method_42_code 64 = .ok (.iconst 0, 1) := by decide +kernel
theorem d_BT_tape_65 : decode prog_1_method_42_code 65 = .ok (.goto 4, 3) := by decide +kernel
theorem d_BT_tape_61 : decode prog_1_method_42_code 61 = .ok (.if_icmp .ne 7, 3) := by decide +kernel
theorem d_BT_tape_70 : decode prog_1_method_42_code 70 = .ok (.iconst 0, 1) := by decide +kernel
theorem d_BT_tape_71 : decode prog_1_method_42_code 71 = .ok (.istore 4, 2) := by decide +kernel
theorem d_BT_tape_73 : decode prog_1_method_42_code 73 = .ok (.iload 4, 2) := by decide +kernel
theorem d_BT_tape_75 : decode prog_1_method_42_code 75 = .ok (.aload_n 0, 1) := by decide +kernel
theorem d_BT_tape_79 : decode prog_1_method_42_code 79 = .ok (.iload_n 1, 1) := by decide +kernel
theorem d_BT_tape_84 : decode prog_1_method_42_code 84 = .ok (.aload_n 0, 1) := by decide +kernel
theorem d_BT_tape_88 : decode prog_1_method_42_code 88 = .ok (.iload_n 1, 1) := by decide +kernel
theorem d_BT_tape_90 : decode prog_1_method_42_code 90 = .ok (.iload 4, 2) := by decide +kernel
theorem d_BT_tape_92 : decode prog_1_method_42_code 92 = .ok (.lconst 0, 1) := by decide +kernel
theorem d_BT_tape_94 : decode prog_1_method_42_code 94 = .ok (.iinc 4 1, 3) := by decide +kernel
theorem d_BT_tape_97 : decode prog_1_method_42_code 97 = .ok (.goto (-24), 3) := by decide +kernel
theorem d_BT_tape_93 : decode prog_1_method_42_code 93 = .ok (.lastore, 1) := by decide +kernel
theorem d_BT_tape_85 : decode prog_1_method_42_code 85 = .ok (.getfield 17, 3) := by decide +kernel
theorem d_BT_tape_81 : decode prog_1_method_42_code 81 = .ok (.if_icmp .ge 19, 3) := by decide +kernel
theorem d_BT_tape_76 : decode prog_1_method_42_code 76 = .ok (.getfield 23, 3) := by decide +kernel
theorem d_BT_tape_80 : decode prog_1_method_42_code 80 = .ok (.iaload, 1) := by decide +kernel
theorem d_BT_tape_89 : decode prog_1_method_42_code 89 = .ok (.aaload, 1) := by decide +kernel
set_option maxRecDepth 10000 in
set_option maxHeartbeats 4000000 in
theorem W_BT_tape_73 {q : QT} {z : ZT} {μ : Mm} {f9 : Int32} {k : Ml → Option (Int32 × Mm × Ml)} (C : Ctx sdX q z prog_1_method_42_code "BesideTom" 5 2 (some (FieldType.int))) (hk : ∀ (ne_ : Ml), R sdX q z 5 φIml (k ne_) μ ne_ 100 [] []) : ∀ (n : Nat) (s8 : Int32) (ν10 : Ml), R sdX q z 5 φIml (L_BT_tape_73 f9 μ k n s8 ν10) μ ν10 73 [(4, .int s8), (0, .ref (q.2.2.1 0)), (1, .int f9)] [] := by
  intro n
  induction n with
  | zero =>
    intros
    exact R_none
  | succ n ih =>
    intro s8 ν10
    rw [L_BT_tape_73]
    refine R_iload C 0 d_BT_tape_73 rfl ?_
    refine R_aload_n C 1 d_BT_tape_75 rfl rfl ?_
    refine gf_BT_sizes C fl_BT_23 d_BT_tape_76 ?_
    refine R_iload_n C 2 d_BT_tape_79 rfl rfl ?_
    refine R_iald C xm_22 (xc_22 q _ _) d_BT_tape_80 (fun v11 => ?_)
    refine R_icmp_ge C d_BT_tape_81 (tgt := 100) (by decide) ?_ ?_
    · skip
      exact R_sub [] rfl (hk ν10)
    · skip
      refine R_aload_n C 1 d_BT_tape_84 rfl rfl ?_
      refine gf_BT_tapes C fl_BT_17 d_BT_tape_85 ?_
      refine R_iload_n C 2 d_BT_tape_88 rfl rfl ?_
      refine R_aald C (ti := 5) (ty := (.array .long)) xm_14 (xc_14 q _ _) rfl rfl d_BT_tape_89 (fun c12 hc12 => ?_)
      refine R_iload C 0 d_BT_tape_90 rfl ?_
      refine R_lconst C d_BT_tape_92 (v := 0) (by decide +kernel) ?_
      refine R_last C (pe_0 (tp_in hc12)) (fun h => pc_0 (tp_in hc12) q _ h) d_BT_tape_93 (fun ν13 => ?_)
      refine R_iinc C 0 d_BT_tape_94 rfl (iinc_v _ (v := 1) (by decide +kernel)) (lv' := [(4, .int (s8 + 1)), (0, .ref (q.2.2.1 0)), (1, .int f9)]) (by decide) rfl ?_
      refine R_goto C d_BT_tape_97 (tgt := 73) (by decide) ?_
      exact R_sub [0, 1, 2] rfl (ih (s8 + 1) ν13)
theorem d_BT_tape_100 : decode prog_1_method_42_code 100 = .ok (.iconst 1, 1) := by decide +kernel
theorem d_BT_tape_101 : decode prog_1_method_42_code 101 = .ok (.ireturn, 1) := by decide +kernel
theorem d_BT_tape_69 : decode prog_1_method_42_code 69 = .ok (.iastore, 1) := by decide +kernel
theorem d_BT_tape_55 : decode prog_1_method_42_code 55 = .ok (.getfield 23, 3) := by decide +kernel
theorem d_BT_tape_53 : decode prog_1_method_42_code 53 = .ok (.iastore, 1) := by decide +kernel
theorem d_BT_tape_48 : decode prog_1_method_42_code 48 = .ok (.getfield 20, 3) := by decide +kernel
theorem d_BT_tape_18 : decode prog_1_method_42_code 18 = .ok (.bipush (-2), 2) := by decide +kernel
theorem d_BT_tape_20 : decode prog_1_method_42_code 20 = .ok (.ireturn, 1) := by decide +kernel
theorem d_BT_tape_15 : decode prog_1_method_42_code 15 = .ok (.ifCond .ne 6, 3) := by decide +kernel
theorem d_BT_tape_7 : decode prog_1_method_42_code 7 = .ok (.iconst (-1), 1) := by decide +kernel
theorem d_BT_tape_8 : decode prog_1_method_42_code 8 = .ok (.ireturn, 1) := by decide +kernel
theorem d_BT_tape_4 : decode prog_1_method_42_code 4 = .ok (.ifCond .ne 5, 3) := by decide +kernel
set_option maxRecDepth 10000 in
set_option maxHeartbeats 4000000 in
theorem w_BT_tape {q : QT} {z : ZT} {a1 : Int32} {a2 : Int32} {a3 : Int32} {μ : Mm} {ν : Ml} (C : Ctx sdX q z prog_1_method_42_code "BesideTom" 5 2 (some (FieldType.int))) : R sdX q z 5 φIml (F_BT_tape a1 a2 a3 μ ν) μ ν 0 [(0, .ref (q.2.2.1 0)), (1, .int a1), (2, .int a2), (3, .int a3)] [] := by
  unfold F_BT_tape
  refine R_iload_n C 1 d_BT_tape_0 rfl rfl ?_
  refine R_bind (fun v1 h2 => ?_)
  refine R_callS C cf_BT_isTape ml_BT_276 sm_BT_isTape (c_BT_isTape (gk C) h2) (by decide) (by decide) rfl rfl (Nat.le_of_ble_eq_true rfl) d_BT_tape_1 ?_
  refine R_if_ne C d_BT_tape_4 (tgt := 9) (by decide) ?_ ?_
  · skip
    refine R_iload_n C 2 d_BT_tape_9 rfl rfl ?_
    refine R_iconst C d_BT_tape_10 (v := (-1)) (by decide +kernel) ?_
    refine R_iconst C d_BT_tape_11 (v := 4) (by decide +kernel) ?_
    refine R_bind (fun v3 h4 => ?_)
    refine R_callS C cf_BT_within ml_BT_76 sm_BT_within (c_BT_within (gk C) h4) (by decide) (by decide) rfl rfl (Nat.le_of_ble_eq_true rfl) d_BT_tape_12 ?_
    refine R_if_ne C d_BT_tape_15 (tgt := 21) (by decide) ?_ ?_
    · skip
      refine R_iload_n C 2 d_BT_tape_21 rfl rfl ?_
      refine R_iconst C d_BT_tape_22 (v := (-1)) (by decide +kernel) ?_
      refine R_jn (fun K17 => R sdX q z 5 φIml (K17 ()) μ ν 35 [(0, .ref (q.2.2.1 0)), (1, .int a1), (2, .int a2), (3, .int a3)] []) ?_ (fun K17 hK17 => ?_)
      · skip
        refine R_iload_n C 2 d_BT_tape_35 rfl rfl ?_
        refine R_iconst C d_BT_tape_36 (v := (-1)) (by decide +kernel) ?_
        refine R_jn (fun K16 => R sdX q z 5 φIml (K16 ()) μ ν 47 [(0, .ref (q.2.2.1 0)), (1, .int a1), (2, .int a2), (3, .int a3)] []) ?_ (fun K16 hK16 => ?_)
        · skip
          refine R_aload_n C 0 d_BT_tape_47 rfl rfl ?_
          refine gf_BT_sorts C fl_BT_20 d_BT_tape_48 ?_
          refine R_iload_n C 1 d_BT_tape_51 rfl rfl ?_
          refine R_iload_n C 2 d_BT_tape_52 rfl rfl ?_
          refine R_iast C xm_21 (fun h => xc_21 q h _) d_BT_tape_53 (fun μ5 => ?_)
          refine R_aload_n C 0 d_BT_tape_54 rfl rfl ?_
          refine gf_BT_sizes C fl_BT_23 d_BT_tape_55 ?_
          refine R_iload_n C 1 d_BT_tape_58 rfl rfl ?_
          refine R_iload_n C 2 d_BT_tape_59 rfl rfl ?_
          refine R_iconst C d_BT_tape_60 (v := (-1)) (by decide +kernel) ?_
          refine R_jn (fun K15 => ∀ (j6 : Int32), R sdX q z 5 φIml (K15 j6) μ5 ν 69 [(0, .ref (q.2.2.1 0)), (1, .int a1)] [.int j6, .int a1, .ref (q.2.2.1 22)]) ?_ (fun K15 hK15 => ?_)
          · intro j6
            refine R_iast C xm_22 (fun h => xc_22 q h _) d_BT_tape_69 (fun μ7 => ?_)
            refine R_iconst C d_BT_tape_70 (v := 0) (by decide +kernel) ?_
            refine R_istore C (lv' := [(4, .int 0), (0, .ref (q.2.2.1 0)), (1, .int a1)]) d_BT_tape_71 (by decide) rfl ?_
            refine R_sub [0, 1, 2] rfl ?_
            refine W_BT_tape_73 C ?_ fu _ _
            intro ν14
            refine R_iconst C d_BT_tape_100 (v := 1) (by decide +kernel) ?_
            exact R_iret C rfl d_BT_tape_101
          · skip
            refine R_icmp_ne C d_BT_tape_61 (tgt := 68) (by decide) ?_ ?_
            · skip
              refine R_iload_n C 3 d_BT_tape_68 rfl rfl ?_
              exact R_sub [0, 1] rfl (hK15 a3)
            · skip
              refine R_iconst C d_BT_tape_64 (v := 0) (by decide +kernel) ?_
              refine R_goto C d_BT_tape_65 (tgt := 69) (by decide) ?_
              exact R_sub [0, 1] rfl (hK15 0)
        · skip
          refine R_icmp_eq C d_BT_tape_37 (tgt := 47) (by decide) ?_ ?_
          · skip
            exact R_sub [0, 1, 2, 3] rfl (hK16)
          · skip
            refine R_iload_n C 3 d_BT_tape_40 rfl rfl ?_
            refine R_if_ge C d_BT_tape_41 (tgt := 47) (by decide) ?_ ?_
            · skip
              exact R_sub [0, 1, 2, 3] rfl (hK16)
            · skip
              refine R_bipush C d_BT_tape_44 (v := (-14)) (by decide +kernel) ?_
              exact R_iret C rfl d_BT_tape_46
      · skip
        refine R_icmp_eq C d_BT_tape_23 (tgt := 35) (by decide) ?_ ?_
        · skip
          exact R_sub [0, 1, 2, 3] rfl (hK17)
        · skip
          refine R_iload_n C 3 d_BT_tape_26 rfl rfl ?_
          refine R_bipush C d_BT_tape_27 (v := 60) (by decide +kernel) ?_
          refine R_icmp_le C d_BT_tape_29 (tgt := 35) (by decide) ?_ ?_
          · skip
            exact R_sub [0, 1, 2, 3] rfl (hK17)
          · skip
            refine R_bipush C d_BT_tape_32 (v := (-2)) (by decide +kernel) ?_
            exact R_iret C rfl d_BT_tape_34
    · skip
      refine R_bipush C d_BT_tape_18 (v := (-2)) (by decide +kernel) ?_
      exact R_iret C rfl d_BT_tape_20
  · skip
    refine R_iconst C d_BT_tape_7 (v := (-1)) (by decide +kernel) ?_
    exact R_iret C rfl d_BT_tape_8
theorem c_BT_tape {q : QT} (hg : GOk sdX q) {a1 : Int32} {a2 : Int32} {a3 : Int32} {μ : Mm} {ν : Ml} {o : Int32 × Mm × Ml} (ho : F_BT_tape a1 a2 a3 μ ν = some o) : Ct sdX q y_BT_tape prog_1_method_42_code 5 (some (FieldType.int)) 2 [.ref (q.2.2.1 0), .int a1, .int a2, .int a3] μ ν (φIml o).1 (φIml o).2.1 (φIml o).2.2 := Ct_of rfl hg (fun z C => w_BT_tape C) (Nat.le_of_ble_eq_true rfl) ho
def F_BT_term (a1 : Int32) (a2 : Int32) (μ : Mm) : Option (Int32 × Mm) := (if a1 = (-1) then (F_Rows_empties 50 μ).bind fun p_ => match p_ with | (v15, μ16) => some (v15, μ16) else (F_BT_within a1 0 3).bind fun v1 => (if v1 = 0 then some ((-1), μ) else jn (α := Unit) (fun K14 => jn (α := Unit) (fun K5 => (if a1 = 1 then K5 () else (if a1 = 2 then K5 () else K14 ()))) (fun (_ : Unit) => (F_Seat_has 40 a2 μ).bind fun v3 => (if v3 = 0 then some ((-1), μ) else K14 ()))) (fun (_ : Unit) => jn (α := Unit) (fun K13 => (if a1 = 3 then (F_Seat_has 40 0 μ).bind fun v6 => (if v6 = 0 then some ((-1), μ) else (F_BT_isDesk a2).bind fun v8 => (if v8 = 0 then some ((-1), μ) else K13 ())) else K13 ())) (fun (_ : Unit) => (F_Rows_takes 50 a1 a2 μ).bind fun p_ => match p_ with | (v10, μ11) => some (v10, μ11)))))
theorem d_BT_term_0 : decode prog_1_method_31_code 0 = .ok (.iload_n 1, 1) := by decide +kernel
theorem d_BT_term_1 : decode prog_1_method_31_code 1 = .ok (.iconst (-1), 1) := by decide +kernel
theorem d_BT_term_16 : decode prog_1_method_31_code 16 = .ok (.iload_n 1, 1) := by decide +kernel
theorem d_BT_term_17 : decode prog_1_method_31_code 17 = .ok (.iconst 0, 1) := by decide +kernel
theorem d_BT_term_18 : decode prog_1_method_31_code 18 = .ok (.iconst 3, 1) := by decide +kernel
theorem d_BT_term_19 : decode prog_1_method_31_code 19 = .ok (.invokestatic 76, 3) := by decide +kernel
theorem d_BT_term_27 : decode prog_1_method_31_code 27 = .ok (.iload_n 1, 1) := by decide +kernel
theorem d_BT_term_28 : decode prog_1_method_31_code 28 = .ok (.iconst 1, 1) := by decide +kernel
theorem d_BT_term_32 : decode prog_1_method_31_code 32 = .ok (.iload_n 1, 1) := by decide +kernel
theorem d_BT_term_33 : decode prog_1_method_31_code 33 = .ok (.iconst 2, 1) := by decide +kernel
theorem d_BT_term_34 : decode prog_1_method_31_code 34 = .ok (.if_icmp .ne 16, 3) := by decide +kernel
theorem d_BT_term_29 : decode prog_1_method_31_code 29 = .ok (.if_icmp .eq 8, 3) := by decide +kernel
theorem d_BT_term_37 : decode prog_1_method_31_code 37 = .ok (.aload_n 0, 1) := by decide +kernel
theorem d_BT_term_41 : decode prog_1_method_31_code 41 = .ok (.iload_n 2, 1) := by decide +kernel
theorem d_BT_term_42 : decode prog_1_method_31_code 42 = .ok (.invokevirtual 92, 3) := by decide +kernel
theorem d_BT_term_48 : decode prog_1_method_31_code 48 = .ok (.iconst (-1), 1) := by decide +kernel
theorem d_BT_term_49 : decode prog_1_method_31_code 49 = .ok (.ireturn, 1) := by decide +kernel
theorem d_BT_term_45 : decode prog_1_method_31_code 45 = .ok (.ifCond .ne 5, 3) := by decide +kernel
theorem d_BT_term_38 : decode prog_1_method_31_code 38 = .ok (.getfield 52, 3) := by decide +kernel
theorem d_BT_term_50 : decode prog_1_method_31_code 50 = .ok (.iload_n 1, 1) := by decide +kernel
theorem d_BT_term_51 : decode prog_1_method_31_code 51 = .ok (.iconst 3, 1) := by decide +kernel
theorem d_BT_term_55 : decode prog_1_method_31_code 55 = .ok (.aload_n 0, 1) := by decide +kernel
theorem d_BT_term_59 : decode prog_1_method_31_code 59 = .ok (.iconst 0, 1) := by decide +kernel
theorem d_BT_term_60 : decode prog_1_method_31_code 60 = .ok (.invokevirtual 92, 3) := by decide +kernel
theorem d_BT_term_73 : decode prog_1_method_31_code 73 = .ok (.iconst (-1), 1) := by decide +kernel
theorem d_BT_term_74 : decode prog_1_method_31_code 74 = .ok (.ireturn, 1) := by decide +kernel
theorem d_BT_term_66 : decode prog_1_method_31_code 66 = .ok (.iload_n 2, 1) := by decide +kernel
theorem d_BT_term_67 : decode prog_1_method_31_code 67 = .ok (.invokestatic 130, 3) := by decide +kernel
theorem d_BT_term_70 : decode prog_1_method_31_code 70 = .ok (.ifCond .ne 5, 3) := by decide +kernel
theorem d_BT_term_63 : decode prog_1_method_31_code 63 = .ok (.ifCond .eq 10, 3) := by decide +kernel
theorem d_BT_term_56 : decode prog_1_method_31_code 56 = .ok (.getfield 52, 3) := by decide +kernel
theorem d_BT_term_52 : decode prog_1_method_31_code 52 = .ok (.if_icmp .ne 23, 3) := by decide +kernel
theorem d_BT_term_75 : decode prog_1_method_31_code 75 = .ok (.aload_n 0, 1) := by decide +kernel
theorem d_BT_term_82 : decode prog_1_method_31_code 82 = .ok (.iload_n 1, 1) := by decide +kernel
theorem d_BT_term_83 : decode prog_1_method_31_code 83 = .ok (.iload_n 2, 1) := by decide +kernel
theorem d_BT_term_84 : decode prog_1_method_31_code 84 = .ok (.invokevirtual 245, 3) := by decide +kernel
theorem d_BT_term_87 : decode prog_1_method_31_code 87 = .ok (.ireturn, 1) := by decide +kernel
theorem d_BT_term_79 : decode prog_1_method_31_code 79 = .ok (.getfield 263, 3) := by decide +kernel
theorem d_BT_term_76 : decode prog_1_method_31_code 76 = .ok (.getfield 52, 3) := by decide +kernel
theorem d_BT_term_25 : decode prog_1_method_31_code 25 = .ok (.iconst (-1), 1) := by decide +kernel
theorem d_BT_term_26 : decode prog_1_method_31_code 26 = .ok (.ireturn, 1) := by decide +kernel
theorem d_BT_term_22 : decode prog_1_method_31_code 22 = .ok (.ifCond .ne 5, 3) := by decide +kernel
theorem d_BT_term_5 : decode prog_1_method_31_code 5 = .ok (.aload_n 0, 1) := by decide +kernel
theorem d_BT_term_12 : decode prog_1_method_31_code 12 = .ok (.invokevirtual 240, 3) := by decide +kernel
theorem d_BT_term_15 : decode prog_1_method_31_code 15 = .ok (.ireturn, 1) := by decide +kernel
theorem d_BT_term_9 : decode prog_1_method_31_code 9 = .ok (.getfield 263, 3) := by decide +kernel
theorem d_BT_term_6 : decode prog_1_method_31_code 6 = .ok (.getfield 52, 3) := by decide +kernel
theorem d_BT_term_2 : decode prog_1_method_31_code 2 = .ok (.if_icmp .ne 14, 3) := by decide +kernel
set_option maxRecDepth 10000 in
set_option maxHeartbeats 4000000 in
theorem w_BT_term {q : QT} {z : ZT} {a1 : Int32} {a2 : Int32} {μ : Mm} {ν : Ml} (C : Ctx sdX q z prog_1_method_31_code "BesideTom" 3 2 (some (FieldType.int))) : R sdX q z 3 (φIm ν) (F_BT_term a1 a2 μ) μ ν 0 [(0, .ref (q.2.2.1 0)), (1, .int a1), (2, .int a2)] [] := by
  unfold F_BT_term
  refine R_iload_n C 1 d_BT_term_0 rfl rfl ?_
  refine R_iconst C d_BT_term_1 (v := (-1)) (by decide +kernel) ?_
  refine R_icmp_ne C d_BT_term_2 (tgt := 16) (by decide) ?_ ?_
  · skip
    refine R_iload_n C 1 d_BT_term_16 rfl rfl ?_
    refine R_iconst C d_BT_term_17 (v := 0) (by decide +kernel) ?_
    refine R_iconst C d_BT_term_18 (v := 3) (by decide +kernel) ?_
    refine R_bind (fun v1 h2 => ?_)
    refine R_callS C cf_BT_within ml_BT_76 sm_BT_within (c_BT_within (gk C) h2) (by decide) (by decide) rfl rfl (Nat.le_of_ble_eq_true rfl) d_BT_term_19 ?_
    refine R_if_ne C d_BT_term_22 (tgt := 27) (by decide) ?_ ?_
    · skip
      refine R_iload_n C 1 d_BT_term_27 rfl rfl ?_
      refine R_iconst C d_BT_term_28 (v := 1) (by decide +kernel) ?_
      refine R_jn (fun K14 => R sdX q z 3 (φIm ν) (K14 ()) μ ν 50 [(0, .ref (q.2.2.1 0)), (1, .int a1), (2, .int a2)] []) ?_ (fun K14 hK14 => ?_)
      · skip
        refine R_iload_n C 1 d_BT_term_50 rfl rfl ?_
        refine R_iconst C d_BT_term_51 (v := 3) (by decide +kernel) ?_
        refine R_jn (fun K13 => R sdX q z 3 (φIm ν) (K13 ()) μ ν 75 [(0, .ref (q.2.2.1 0)), (1, .int a1), (2, .int a2)] []) ?_ (fun K13 hK13 => ?_)
        · skip
          refine R_aload_n C 0 d_BT_term_75 rfl rfl ?_
          refine gf_BT_now C fl_BT_52 d_BT_term_76 ?_
          refine gf_Seat_term C s40 fl_BT_263 d_BT_term_79 ?_
          refine R_iload_n C 1 d_BT_term_82 rfl rfl ?_
          refine R_iload_n C 2 d_BT_term_83 rfl rfl ?_
          refine R_bind (fun r_ h12 => ?_)
          obtain ⟨v10, μ11⟩ := r_
          refine R_callV C (re_0 (sr_10 s40)) (rc_0 (sr_10 s40) q _ _) rfl cf_Rows_takes rfl ml_BT_245 im_Rows_takes sl_Rows_Rows_takes_Rows_takes (c_Rows_takes (gk C) (sr_10 s40) h12) (by decide) (by decide) rfl rfl (Nat.le_of_ble_eq_true rfl) d_BT_term_84 ?_
          exact R_iret C rfl d_BT_term_87
        · skip
          refine R_icmp_ne C d_BT_term_52 (tgt := 75) (by decide) ?_ ?_
          · skip
            exact R_sub [0, 1, 2] rfl (hK13)
          · skip
            refine R_aload_n C 0 d_BT_term_55 rfl rfl ?_
            refine gf_BT_now C fl_BT_52 d_BT_term_56 ?_
            refine R_iconst C d_BT_term_59 (v := 0) (by decide +kernel) ?_
            refine R_bind (fun v6 h7 => ?_)
            refine R_callV C (se_0 s40) (sc_0 s40 q _ _) rfl cf_Seat_has rfl ml_BT_92 im_Seat_has sl_Seat_Seat_has_Seat_has (c_Seat_has (gk C) s40 h7) (by decide) (by decide) rfl rfl (Nat.le_of_ble_eq_true rfl) d_BT_term_60 ?_
            refine R_if_eq C d_BT_term_63 (tgt := 73) (by decide) ?_ ?_
            · skip
              refine R_iconst C d_BT_term_73 (v := (-1)) (by decide +kernel) ?_
              exact R_iret C rfl d_BT_term_74
            · skip
              refine R_iload_n C 2 d_BT_term_66 rfl rfl ?_
              refine R_bind (fun v8 h9 => ?_)
              refine R_callS C cf_BT_isDesk ml_BT_130 sm_BT_isDesk (c_BT_isDesk (gk C) h9) (by decide) (by decide) rfl rfl (Nat.le_of_ble_eq_true rfl) d_BT_term_67 ?_
              refine R_if_ne C d_BT_term_70 (tgt := 75) (by decide) ?_ ?_
              · skip
                exact R_sub [0, 1, 2] rfl (hK13)
              · skip
                refine R_iconst C d_BT_term_73 (v := (-1)) (by decide +kernel) ?_
                exact R_iret C rfl d_BT_term_74
      · skip
        refine R_jn (fun K5 => R sdX q z 3 (φIm ν) (K5 ()) μ ν 37 [(0, .ref (q.2.2.1 0)), (1, .int a1), (2, .int a2)] []) ?_ (fun K5 hK5 => ?_)
        · skip
          refine R_aload_n C 0 d_BT_term_37 rfl rfl ?_
          refine gf_BT_now C fl_BT_52 d_BT_term_38 ?_
          refine R_iload_n C 2 d_BT_term_41 rfl rfl ?_
          refine R_bind (fun v3 h4 => ?_)
          refine R_callV C (se_0 s40) (sc_0 s40 q _ _) rfl cf_Seat_has rfl ml_BT_92 im_Seat_has sl_Seat_Seat_has_Seat_has (c_Seat_has (gk C) s40 h4) (by decide) (by decide) rfl rfl (Nat.le_of_ble_eq_true rfl) d_BT_term_42 ?_
          refine R_if_ne C d_BT_term_45 (tgt := 50) (by decide) ?_ ?_
          · skip
            exact R_sub [0, 1, 2] rfl (hK14)
          · skip
            refine R_iconst C d_BT_term_48 (v := (-1)) (by decide +kernel) ?_
            exact R_iret C rfl d_BT_term_49
        · skip
          refine R_icmp_eq C d_BT_term_29 (tgt := 37) (by decide) ?_ ?_
          · skip
            exact R_sub [0, 1, 2] rfl (hK5)
          · skip
            refine R_iload_n C 1 d_BT_term_32 rfl rfl ?_
            refine R_iconst C d_BT_term_33 (v := 2) (by decide +kernel) ?_
            refine R_icmp_ne C d_BT_term_34 (tgt := 50) (by decide) ?_ ?_
            · skip
              exact R_sub [0, 1, 2] rfl (hK14)
            · skip
              exact R_sub [0, 1, 2] rfl (hK5)
    · skip
      refine R_iconst C d_BT_term_25 (v := (-1)) (by decide +kernel) ?_
      exact R_iret C rfl d_BT_term_26
  · skip
    refine R_aload_n C 0 d_BT_term_5 rfl rfl ?_
    refine gf_BT_now C fl_BT_52 d_BT_term_6 ?_
    refine gf_Seat_term C s40 fl_BT_263 d_BT_term_9 ?_
    refine R_bind (fun r_ h17 => ?_)
    obtain ⟨v15, μ16⟩ := r_
    refine R_callV C (re_0 (sr_10 s40)) (rc_0 (sr_10 s40) q _ _) rfl cf_Rows_empties rfl ml_BT_240 im_Rows_empties sl_Rows_Rows_empties_Rows_empties (c_Rows_empties (gk C) (sr_10 s40) h17) (by decide) (by decide) rfl rfl (Nat.le_of_ble_eq_true rfl) d_BT_term_12 ?_
    exact R_iret C rfl d_BT_term_15
theorem c_BT_term {q : QT} (hg : GOk sdX q) {a1 : Int32} {a2 : Int32} {μ : Mm} {ν : Ml} {o : Int32 × Mm} (ho : F_BT_term a1 a2 μ = some o) : Ct sdX q y_BT_term prog_1_method_31_code 3 (some (FieldType.int)) 2 [.ref (q.2.2.1 0), .int a1, .int a2] μ ν ((φIm ν) o).1 ((φIm ν) o).2.1 ((φIm ν) o).2.2 := Ct_of rfl hg (fun z C => w_BT_term C) (Nat.le_of_ble_eq_true rfl) ho
def F_Rooms_test (μ : Mm) : Option (Int32 × Mm) := (F_Rooms_letter μ).bind fun v1 => (if 0 ≤ v1 then (F_Rooms_steps μ).bind fun μ3 => jn (α := Unit) (fun K12 => (if (μ3 1 5) = 60 then K12 () else (if (μ3 1 5) = 61 then K12 () else (if (μ3 1 5) = 62 then K12 () else (F_Rooms_fails μ3).bind fun μ5 => some (0, μ5))))) (fun (_ : Unit) => (F_Rooms_steps μ3).bind fun μ7 => (F_Rooms_number μ7).bind fun p_ => match p_ with | (v9, μ10) => (if (μ3 1 5) = 60 then (if v9 ≤ v1 then some (0, μ10) else some (1, μ10)) else (if (μ3 1 5) = 61 then (if v1 = v9 then some (1, μ10) else some (0, μ10)) else (if v1 ≤ v9 then some (0, μ10) else some (1, μ10))))) else (F_Rooms_fails μ).bind fun μ13 => some (0, μ13))
theorem d_Rooms_test_0 : decode prog_5_method_18_code 0 = .ok (.aload_n 0, 1) := by decide +kernel
theorem d_Rooms_test_1 : decode prog_5_method_18_code 1 = .ok (.invokevirtual 125, 3) := by decide +kernel
theorem d_Rooms_test_4 : decode prog_5_method_18_code 4 = .ok (.istore_n 1, 1) := by decide +kernel
theorem d_Rooms_test_5 : decode prog_5_method_18_code 5 = .ok (.iload_n 1, 1) := by decide +kernel
theorem d_Rooms_test_15 : decode prog_5_method_18_code 15 = .ok (.aload_n 0, 1) := by decide +kernel
theorem d_Rooms_test_16 : decode prog_5_method_18_code 16 = .ok (.invokevirtual 49, 3) := by decide +kernel
theorem d_Rooms_test_19 : decode prog_5_method_18_code 19 = .ok (.aload_n 0, 1) := by decide +kernel
theorem d_Rooms_test_23 : decode prog_5_method_18_code 23 = .ok (.istore_n 2, 1) := by decide +kernel
theorem d_Rooms_test_24 : decode prog_5_method_18_code 24 = .ok (.iload_n 2, 1) := by decide +kernel
theorem d_Rooms_test_25 : decode prog_5_method_18_code 25 = .ok (.bipush 60, 2) := by decide +kernel
theorem d_Rooms_test_30 : decode prog_5_method_18_code 30 = .ok (.iload_n 2, 1) := by decide +kernel
theorem d_Rooms_test_31 : decode prog_5_method_18_code 31 = .ok (.bipush 61, 2) := by decide +kernel
theorem d_Rooms_test_36 : decode prog_5_method_18_code 36 = .ok (.iload_n 2, 1) := by decide +kernel
theorem d_Rooms_test_37 : decode prog_5_method_18_code 37 = .ok (.bipush 62, 2) := by decide +kernel
theorem d_Rooms_test_42 : decode prog_5_method_18_code 42 = .ok (.aload_n 0, 1) := by decide +kernel
theorem d_Rooms_test_43 : decode prog_5_method_18_code 43 = .ok (.invokevirtual 55, 3) := by decide +kernel
theorem d_Rooms_test_46 : decode prog_5_method_18_code 46 = .ok (.iconst 0, 1) := by decide +kernel
theorem d_Rooms_test_47 : decode prog_5_method_18_code 47 = .ok (.ireturn, 1) := by decide +kernel
theorem d_Rooms_test_39 : decode prog_5_method_18_code 39 = .ok (.if_icmp .eq 9, 3) := by decide +kernel
theorem d_Rooms_test_33 : decode prog_5_method_18_code 33 = .ok (.if_icmp .eq 15, 3) := by decide +kernel
theorem d_Rooms_test_27 : decode prog_5_method_18_code 27 = .ok (.if_icmp .eq 21, 3) := by decide +kernel
theorem d_Rooms_test_48 : decode prog_5_method_18_code 48 = .ok (.aload_n 0, 1) := by decide +kernel
theorem d_Rooms_test_49 : decode prog_5_method_18_code 49 = .ok (.invokevirtual 49, 3) := by decide +kernel
theorem d_Rooms_test_52 : decode prog_5_method_18_code 52 = .ok (.aload_n 0, 1) := by decide +kernel
theorem d_Rooms_test_53 : decode prog_5_method_18_code 53 = .ok (.invokevirtual 100, 3) := by decide +kernel
theorem d_Rooms_test_56 : decode prog_5_method_18_code 56 = .ok (.istore_n 3, 1) := by decide +kernel
theorem d_Rooms_test_57 : decode prog_5_method_18_code 57 = .ok (.iload_n 2, 1) := by decide +kernel
theorem d_Rooms_test_58 : decode prog_5_method_18_code 58 = .ok (.bipush 60, 2) := by decide +kernel
theorem d_Rooms_test_74 : decode prog_5_method_18_code 74 = .ok (.iload_n 2, 1) := by decide +kernel
theorem d_Rooms_test_75 : decode prog_5_method_18_code 75 = .ok (.bipush 61, 2) := by decide +kernel
theorem d_Rooms_test_93 : decode prog_5_method_18_code 93 = .ok (.iload_n 1, 1) := by decide +kernel
theorem d_Rooms_test_94 : decode prog_5_method_18_code 94 = .ok (.iload_n 3, 1) := by decide +kernel
theorem d_Rooms_test_102 : decode prog_5_method_18_code 102 = .ok (.iconst 0, 1) := by decide +kernel
theorem d_Rooms_test_103 : decode prog_5_method_18_code 103 = .ok (.ireturn, 1) := by decide +kernel
theorem d_Rooms_test_98 : decode prog_5_method_18_code 98 = .ok (.iconst 1, 1) := by decide +kernel
theorem d_Rooms_test_99 : decode prog_5_method_18_code 99 = .ok (.goto 4, 3) := by decide +kernel
theorem d_Rooms_test_95 : decode prog_5_method_18_code 95 = .ok (.if_icmp .le 7, 3) := by decide +kernel
theorem d_Rooms_test_80 : decode prog_5_method_18_code 80 = .ok (.iload_n 1, 1) := by decide +kernel
theorem d_Rooms_test_81 : decode prog_5_method_18_code 81 = .ok (.iload_n 3, 1) := by decide +kernel
theorem d_Rooms_test_89 : decode prog_5_method_18_code 89 = .ok (.iconst 0, 1) := by decide +kernel
theorem d_Rooms_test_90 : decode prog_5_method_18_code 90 = .ok (.goto 13, 3) := by decide +kernel
theorem d_Rooms_test_85 : decode prog_5_method_18_code 85 = .ok (.iconst 1, 1) := by decide +kernel
theorem d_Rooms_test_86 : decode prog_5_method_18_code 86 = .ok (.goto 17, 3) := by decide +kernel
theorem d_Rooms_test_82 : decode prog_5_method_18_code 82 = .ok (.if_icmp .ne 7, 3) := by decide +kernel
theorem d_Rooms_test_77 : decode prog_5_method_18_code 77 = .ok (.if_icmp .ne 16, 3) := by decide +kernel
theorem d_Rooms_test_63 : decode prog_5_method_18_code 63 = .ok (.iload_n 1, 1) := by decide +kernel
theorem d_Rooms_test_64 : decode prog_5_method_18_code 64 = .ok (.iload_n 3, 1) := by decide +kernel
theorem d_Rooms_test_72 : decode prog_5_method_18_code 72 = .ok (.iconst 0, 1) := by decide +kernel
theorem d_Rooms_test_73 : decode prog_5_method_18_code 73 = .ok (.ireturn, 1) := by decide +kernel
theorem d_Rooms_test_68 : decode prog_5_method_18_code 68 = .ok (.iconst 1, 1) := by decide +kernel
theorem d_Rooms_test_69 : decode prog_5_method_18_code 69 = .ok (.goto 4, 3) := by decide +kernel
theorem d_Rooms_test_65 : decode prog_5_method_18_code 65 = .ok (.if_icmp .ge 7, 3) := by decide +kernel
theorem d_Rooms_test_60 : decode prog_5_method_18_code 60 = .ok (.if_icmp .ne 14, 3) := by decide +kernel
theorem d_Rooms_test_20 : decode prog_5_method_18_code 20 = .ok (.getfield 46, 3) := by decide +kernel
theorem d_Rooms_test_9 : decode prog_5_method_18_code 9 = .ok (.aload_n 0, 1) := by decide +kernel
theorem d_Rooms_test_10 : decode prog_5_method_18_code 10 = .ok (.invokevirtual 55, 3) := by decide +kernel
theorem d_Rooms_test_13 : decode prog_5_method_18_code 13 = .ok (.iconst 0, 1) := by decide +kernel
theorem d_Rooms_test_14 : decode prog_5_method_18_code 14 = .ok (.ireturn, 1) := by decide +kernel
theorem d_Rooms_test_6 : decode prog_5_method_18_code 6 = .ok (.ifCond .ge 9, 3) := by decide +kernel
set_option maxRecDepth 10000 in
set_option maxHeartbeats 4000000 in
theorem w_Rooms_test {q : QT} {z : ZT} {μ : Mm} {ν : Ml} (C : Ctx sdX q z prog_5_method_18_code "BesideTom$Rooms" 4 2 (some (FieldType.boolean))) : R sdX q z 4 (φIm ν) (F_Rooms_test μ) μ ν 0 [(0, .ref (q.2.2.1 1))] [] := by
  unfold F_Rooms_test
  refine R_aload_n C 0 d_Rooms_test_0 rfl rfl ?_
  refine R_bind (fun v1 h2 => ?_)
  refine R_callV C xm_1 (xc_1 q _ _) rfl cf_Rooms_letter rfl ml_Rooms_125 im_Rooms_letter sl_Rooms_Rooms_letter_Rooms_letter (c_Rooms_letter (gk C) h2) (by decide) (by decide) rfl rfl (Nat.le_of_ble_eq_true rfl) d_Rooms_test_1 ?_
  refine R_istore_n C (lv' := [(1, .int v1), (0, .ref (q.2.2.1 1))]) d_Rooms_test_4 rfl (by decide) rfl ?_
  refine R_iload_n C 0 d_Rooms_test_5 rfl rfl ?_
  refine R_if_ge C d_Rooms_test_6 (tgt := 15) (by decide) ?_ ?_
  · skip
    refine R_aload_n C 1 d_Rooms_test_15 rfl rfl ?_
    refine R_bind (fun μ3 h4 => ?_)
    refine R_callV C xm_1 (xc_1 q _ _) rfl cf_Rooms_steps rfl ml_Rooms_49 im_Rooms_steps sl_Rooms_Rooms_steps_Rooms_steps (c_Rooms_steps (gk C) h4) (by decide) (by decide) rfl rfl (Nat.le_of_ble_eq_true rfl) d_Rooms_test_16 ?_
    refine R_aload_n C 1 d_Rooms_test_19 rfl rfl ?_
    refine gf_Rooms_sign C fl_Rooms_46 d_Rooms_test_20 ?_
    refine R_istore_n C (lv' := [(2, .int (μ3 1 5)), (1, .int v1), (0, .ref (q.2.2.1 1))]) d_Rooms_test_23 rfl (by decide) rfl ?_
    refine R_iload_n C 0 d_Rooms_test_24 rfl rfl ?_
    refine R_bipush C d_Rooms_test_25 (v := 60) (by decide +kernel) ?_
    refine R_jn (fun K12 => R sdX q z 4 (φIm ν) (K12 ()) μ3 ν 48 [(0, .ref (q.2.2.1 1)), (1, .int v1), (2, .int (μ3 1 5))] []) ?_ (fun K12 hK12 => ?_)
    · skip
      refine R_aload_n C 0 d_Rooms_test_48 rfl rfl ?_
      refine R_bind (fun μ7 h8 => ?_)
      refine R_callV C xm_1 (xc_1 q _ _) rfl cf_Rooms_steps rfl ml_Rooms_49 im_Rooms_steps sl_Rooms_Rooms_steps_Rooms_steps (c_Rooms_steps (gk C) h8) (by decide) (by decide) rfl rfl (Nat.le_of_ble_eq_true rfl) d_Rooms_test_49 ?_
      refine R_aload_n C 0 d_Rooms_test_52 rfl rfl ?_
      refine R_bind (fun r_ h11 => ?_)
      obtain ⟨v9, μ10⟩ := r_
      refine R_callV C xm_1 (xc_1 q _ _) rfl cf_Rooms_number rfl ml_Rooms_100 im_Rooms_number sl_Rooms_Rooms_number_Rooms_number (c_Rooms_number (gk C) h11) (by decide) (by decide) rfl rfl (Nat.le_of_ble_eq_true rfl) d_Rooms_test_53 ?_
      refine R_istore_n C (lv' := [(3, .int v9), (0, .ref (q.2.2.1 1)), (1, .int v1), (2, .int (μ3 1 5))]) d_Rooms_test_56 rfl (by decide) rfl ?_
      refine R_iload_n C 3 d_Rooms_test_57 rfl rfl ?_
      refine R_bipush C d_Rooms_test_58 (v := 60) (by decide +kernel) ?_
      refine R_icmp_ne C d_Rooms_test_60 (tgt := 74) (by decide) ?_ ?_
      · skip
        refine R_iload_n C 3 d_Rooms_test_74 rfl rfl ?_
        refine R_bipush C d_Rooms_test_75 (v := 61) (by decide +kernel) ?_
        refine R_icmp_ne C d_Rooms_test_77 (tgt := 93) (by decide) ?_ ?_
        · skip
          refine R_iload_n C 2 d_Rooms_test_93 rfl rfl ?_
          refine R_iload_n C 0 d_Rooms_test_94 rfl rfl ?_
          refine R_icmp_le C d_Rooms_test_95 (tgt := 102) (by decide) ?_ ?_
          · skip
            refine R_iconst C d_Rooms_test_102 (v := 0) (by decide +kernel) ?_
            exact R_zret C (by decide) rfl d_Rooms_test_103
          · skip
            refine R_iconst C d_Rooms_test_98 (v := 1) (by decide +kernel) ?_
            refine R_goto C d_Rooms_test_99 (tgt := 103) (by decide) ?_
            exact R_zret C (by decide) rfl d_Rooms_test_103
        · skip
          refine R_iload_n C 2 d_Rooms_test_80 rfl rfl ?_
          refine R_iload_n C 0 d_Rooms_test_81 rfl rfl ?_
          refine R_icmp_ne C d_Rooms_test_82 (tgt := 89) (by decide) ?_ ?_
          · skip
            refine R_iconst C d_Rooms_test_89 (v := 0) (by decide +kernel) ?_
            refine R_goto C d_Rooms_test_90 (tgt := 103) (by decide) ?_
            exact R_zret C (by decide) rfl d_Rooms_test_103
          · skip
            refine R_iconst C d_Rooms_test_85 (v := 1) (by decide +kernel) ?_
            refine R_goto C d_Rooms_test_86 (tgt := 103) (by decide) ?_
            exact R_zret C (by decide) rfl d_Rooms_test_103
      · skip
        refine R_iload_n C 2 d_Rooms_test_63 rfl rfl ?_
        refine R_iload_n C 0 d_Rooms_test_64 rfl rfl ?_
        refine R_icmp_ge C d_Rooms_test_65 (tgt := 72) (by decide) ?_ ?_
        · skip
          refine R_iconst C d_Rooms_test_72 (v := 0) (by decide +kernel) ?_
          exact R_zret C (by decide) rfl d_Rooms_test_73
        · skip
          refine R_iconst C d_Rooms_test_68 (v := 1) (by decide +kernel) ?_
          refine R_goto C d_Rooms_test_69 (tgt := 73) (by decide) ?_
          exact R_zret C (by decide) rfl d_Rooms_test_73
    · skip
      refine R_icmp_eq C d_Rooms_test_27 (tgt := 48) (by decide) ?_ ?_
      · skip
        exact R_sub [2, 1, 0] rfl (hK12)
      · skip
        refine R_iload_n C 0 d_Rooms_test_30 rfl rfl ?_
        refine R_bipush C d_Rooms_test_31 (v := 61) (by decide +kernel) ?_
        refine R_icmp_eq C d_Rooms_test_33 (tgt := 48) (by decide) ?_ ?_
        · skip
          exact R_sub [2, 1, 0] rfl (hK12)
        · skip
          refine R_iload_n C 0 d_Rooms_test_36 rfl rfl ?_
          refine R_bipush C d_Rooms_test_37 (v := 62) (by decide +kernel) ?_
          refine R_icmp_eq C d_Rooms_test_39 (tgt := 48) (by decide) ?_ ?_
          · skip
            exact R_sub [2, 1, 0] rfl (hK12)
          · skip
            refine R_aload_n C 2 d_Rooms_test_42 rfl rfl ?_
            refine R_bind (fun μ5 h6 => ?_)
            refine R_callV C xm_1 (xc_1 q _ _) rfl cf_Rooms_fails rfl ml_Rooms_55 im_Rooms_fails sl_Rooms_Rooms_fails_Rooms_fails (c_Rooms_fails (gk C) h6) (by decide) (by decide) rfl rfl (Nat.le_of_ble_eq_true rfl) d_Rooms_test_43 ?_
            refine R_iconst C d_Rooms_test_46 (v := 0) (by decide +kernel) ?_
            exact R_zret C (by decide) rfl d_Rooms_test_47
  · skip
    refine R_aload_n C 1 d_Rooms_test_9 rfl rfl ?_
    refine R_bind (fun μ13 h14 => ?_)
    refine R_callV C xm_1 (xc_1 q _ _) rfl cf_Rooms_fails rfl ml_Rooms_55 im_Rooms_fails sl_Rooms_Rooms_fails_Rooms_fails (c_Rooms_fails (gk C) h14) (by decide) (by decide) rfl rfl (Nat.le_of_ble_eq_true rfl) d_Rooms_test_10 ?_
    refine R_iconst C d_Rooms_test_13 (v := 0) (by decide +kernel) ?_
    exact R_zret C (by decide) rfl d_Rooms_test_14
theorem c_Rooms_test {q : QT} (hg : GOk sdX q) {μ : Mm} {ν : Ml} {o : Int32 × Mm} (ho : F_Rooms_test μ = some o) : Ct sdX q y_Rooms_test prog_5_method_18_code 4 (some (FieldType.boolean)) 2 [.ref (q.2.2.1 1)] μ ν ((φIm ν) o).1 ((φIm ν) o).2.1 ((φIm ν) o).2.2 := Ct_of rfl hg (fun z C => w_Rooms_test C) (Nat.le_of_ble_eq_true rfl) ho
def F_Tom_voice (this : Nat) (a1 : Int32) (a2 : Int32) (a3 : Int32) (a4 : Int32) : Option (Int32) := (F_Talk_voice this a1 a2 a3 a4).bind fun v1 => some (v1 + a1)
theorem d_Tom_voice_0 : decode prog_11_method_3_code 0 = .ok (.aload_n 0, 1) := by decide +kernel
theorem d_Tom_voice_1 : decode prog_11_method_3_code 1 = .ok (.iload_n 1, 1) := by decide +kernel
theorem d_Tom_voice_2 : decode prog_11_method_3_code 2 = .ok (.iload_n 2, 1) := by decide +kernel
theorem d_Tom_voice_3 : decode prog_11_method_3_code 3 = .ok (.iload_n 3, 1) := by decide +kernel
theorem d_Tom_voice_4 : decode prog_11_method_3_code 4 = .ok (.iload 4, 2) := by decide +kernel
theorem d_Tom_voice_6 : decode prog_11_method_3_code 6 = .ok (.invokespecial 11, 3) := by decide +kernel
theorem d_Tom_voice_9 : decode prog_11_method_3_code 9 = .ok (.iload_n 1, 1) := by decide +kernel
theorem d_Tom_voice_10 : decode prog_11_method_3_code 10 = .ok (.iadd, 1) := by decide +kernel
theorem d_Tom_voice_11 : decode prog_11_method_3_code 11 = .ok (.ireturn, 1) := by decide +kernel
set_option maxRecDepth 10000 in
set_option maxHeartbeats 4000000 in
theorem w_Tom_voice {q : QT} {z : ZT} {this : Nat} {a1 : Int32} {a2 : Int32} {a3 : Int32} {a4 : Int32} {μ : Mm} {ν : Ml} (C : Ctx sdX q z prog_11_method_3_code "BesideTom$TomKind" 5 2 (some (FieldType.int))) (h_this : this ∈ kd_Tom) : R sdX q z 5 (φI μ ν) (F_Tom_voice this a1 a2 a3 a4) μ ν 0 [(0, .ref (q.2.2.1 this)), (1, .int a1), (2, .int a2), (3, .int a3), (4, .int a4)] [] := by
  unfold F_Tom_voice
  refine R_aload_n C 0 d_Tom_voice_0 rfl rfl ?_
  refine R_iload_n C 1 d_Tom_voice_1 rfl rfl ?_
  refine R_iload_n C 2 d_Tom_voice_2 rfl rfl ?_
  refine R_iload_n C 3 d_Tom_voice_3 rfl rfl ?_
  refine R_iload C 4 d_Tom_voice_4 rfl ?_
  refine R_bind (fun v1 h2 => ?_)
  obtain ⟨ci_, Cn_, T_, N_, hq1_, hq2_⟩ := kc_0 (kdup (A := kd_Tom) (by decide) h_this) q (μ this) (ν this)
  refine R_callSU C (ke_0 (kdup (A := kd_Tom) (by decide) h_this)) hq1_ hq2_ cf_Talk_voice (by decide) ml_Tom_11 sa_Talk_Talk_voice su_Tom_Talk im_Talk_voice (c_Talk_voice (gk C) (kdup (A := kd_Tom) (by decide) h_this) h2) (by decide) (by decide) rfl rfl (Nat.le_of_ble_eq_true rfl) d_Tom_voice_6 ?_
  refine R_iload_n C 1 d_Tom_voice_9 rfl rfl ?_
  refine R_iadd C d_Tom_voice_10 ?_
  exact R_iret C rfl d_Tom_voice_11
theorem c_Tom_voice {q : QT} (hg : GOk sdX q) {this : Nat} {a1 : Int32} {a2 : Int32} {a3 : Int32} {a4 : Int32} {μ : Mm} {ν : Ml} (h_this : this ∈ kd_Tom) {o : Int32} (ho : F_Tom_voice this a1 a2 a3 a4 = some o) : Ct sdX q y_Tom_voice prog_11_method_3_code 5 (some (FieldType.int)) 2 [.ref (q.2.2.1 this), .int a1, .int a2, .int a3, .int a4] μ ν ((φI μ ν) o).1 ((φI μ ν) o).2.1 ((φI μ ν) o).2.2 := Ct_of rfl hg (fun z C => w_Tom_voice C h_this) (Nat.le_of_ble_eq_true rfl) ho
def F_Quiet_whispers (this : Nat) (a2 : Int32) (μ : Mm) : Option (Int32 × Mm) := (F_Trace_begins 30 μ).bind fun μ1 => (F_PK_whispers this (a2 * 3) μ1).bind fun p_ => match p_ with | (v3, μ4) => some (v3, μ4)
theorem d_Quiet_whispers_0 : decode prog_4_method_5_code 0 = .ok (.aload_n 1, 1) := by decide +kernel
theorem d_Quiet_whispers_1 : decode prog_4_method_5_code 1 = .ok (.bipush 30, 2) := by decide +kernel
theorem d_Quiet_whispers_3 : decode prog_4_method_5_code 3 = .ok (.invokevirtual 18, 3) := by decide +kernel
theorem d_Quiet_whispers_6 : decode prog_4_method_5_code 6 = .ok (.aload_n 0, 1) := by decide +kernel
theorem d_Quiet_whispers_7 : decode prog_4_method_5_code 7 = .ok (.aload_n 1, 1) := by decide +kernel
theorem d_Quiet_whispers_8 : decode prog_4_method_5_code 8 = .ok (.iload_n 2, 1) := by decide +kernel
theorem d_Quiet_whispers_9 : decode prog_4_method_5_code 9 = .ok (.iconst 3, 1) := by decide +kernel
theorem d_Quiet_whispers_10 : decode prog_4_method_5_code 10 = .ok (.imul, 1) := by decide +kernel
theorem d_Quiet_whispers_11 : decode prog_4_method_5_code 11 = .ok (.invokespecial 24, 3) := by decide +kernel
theorem d_Quiet_whispers_14 : decode prog_4_method_5_code 14 = .ok (.ireturn, 1) := by decide +kernel
set_option maxRecDepth 10000 in
set_option maxHeartbeats 4000000 in
theorem w_Quiet_whispers {q : QT} {z : ZT} {this : Nat} {a2 : Int32} {μ : Mm} {ν : Ml} (C : Ctx sdX q z prog_4_method_5_code "BesideTom$QuietKind" 3 2 (some (FieldType.int))) (h_this : this ∈ kd_Quiet) : R sdX q z 3 (φIm ν) (F_Quiet_whispers this a2 μ) μ ν 0 [(0, .ref (q.2.2.1 this)), (1, .ref (q.2.2.1 11)), (2, .int a2)] [] := by
  unfold F_Quiet_whispers
  refine R_aload_n C 1 d_Quiet_whispers_0 rfl rfl ?_
  refine R_bipush C d_Quiet_whispers_1 (v := 30) (by decide +kernel) ?_
  refine R_bind (fun μ1 h2 => ?_)
  refine R_callV C xm_11 (xc_11 q _ _) rfl cf_Trace_begins rfl ml_Quiet_18 im_Trace_begins sl_Trace_Trace_begins_Trace_begins (c_Trace_begins (gk C) h2) (by decide) (by decide) rfl rfl (Nat.le_of_ble_eq_true rfl) d_Quiet_whispers_3 ?_
  refine R_aload_n C 0 d_Quiet_whispers_6 rfl rfl ?_
  refine R_aload_n C 1 d_Quiet_whispers_7 rfl rfl ?_
  refine R_iload_n C 2 d_Quiet_whispers_8 rfl rfl ?_
  refine R_iconst C d_Quiet_whispers_9 (v := 3) (by decide +kernel) ?_
  refine R_imul C d_Quiet_whispers_10 ?_
  refine R_bind (fun r_ h5 => ?_)
  obtain ⟨v3, μ4⟩ := r_
  obtain ⟨ci_, Cn_, T_, N_, hq1_, hq2_⟩ := kc_0 (kdup (A := kd_Quiet) (by decide) h_this) q (μ1 this) (ν this)
  refine R_callSU C (ke_0 (kdup (A := kd_Quiet) (by decide) h_this)) hq1_ hq2_ cf_PK_whispers (by decide) ml_Quiet_24 sa_PK_PK_whispers su_Quiet_PK im_PK_whispers (c_PK_whispers (gk C) (kdup (A := kd_Quiet) (by decide) h_this) h5) (by decide) (by decide) rfl rfl (Nat.le_of_ble_eq_true rfl) d_Quiet_whispers_11 ?_
  exact R_iret C rfl d_Quiet_whispers_14
theorem c_Quiet_whispers {q : QT} (hg : GOk sdX q) {this : Nat} {a2 : Int32} {μ : Mm} {ν : Ml} (h_this : this ∈ kd_Quiet) {o : Int32 × Mm} (ho : F_Quiet_whispers this a2 μ = some o) : Ct sdX q y_Quiet_whispers prog_4_method_5_code 3 (some (FieldType.int)) 2 [.ref (q.2.2.1 this), .ref (q.2.2.1 11), .int a2] μ ν ((φIm ν) o).1 ((φIm ν) o).2.1 ((φIm ν) o).2.2 := Ct_of rfl hg (fun z C => w_Quiet_whispers C h_this) (Nat.le_of_ble_eq_true rfl) ho
def F_Told_whispers (this : Nat) (a2 : Int32) (μ : Mm) : Option (Int32 × Mm) := (F_Trace_begins 71 μ).bind fun μ1 => (F_PK_whispers this a2 μ1).bind fun p_ => match p_ with | (v3, μ4) => some ((v3 ^^^ (μ4 11 3)), μ4)
theorem d_Told_whispers_0 : decode prog_10_method_5_code 0 = .ok (.aload_n 1, 1) := by decide +kernel
theorem d_Told_whispers_1 : decode prog_10_method_5_code 1 = .ok (.bipush 71, 2) := by decide +kernel
theorem d_Told_whispers_3 : decode prog_10_method_5_code 3 = .ok (.invokevirtual 17, 3) := by decide +kernel
theorem d_Told_whispers_6 : decode prog_10_method_5_code 6 = .ok (.aload_n 0, 1) := by decide +kernel
theorem d_Told_whispers_7 : decode prog_10_method_5_code 7 = .ok (.aload_n 1, 1) := by decide +kernel
theorem d_Told_whispers_8 : decode prog_10_method_5_code 8 = .ok (.iload_n 2, 1) := by decide +kernel
theorem d_Told_whispers_9 : decode prog_10_method_5_code 9 = .ok (.invokespecial 27, 3) := by decide +kernel
theorem d_Told_whispers_12 : decode prog_10_method_5_code 12 = .ok (.aload_n 1, 1) := by decide +kernel
theorem d_Told_whispers_16 : decode prog_10_method_5_code 16 = .ok (.ixor, 1) := by decide +kernel
theorem d_Told_whispers_17 : decode prog_10_method_5_code 17 = .ok (.ireturn, 1) := by decide +kernel
theorem d_Told_whispers_13 : decode prog_10_method_5_code 13 = .ok (.getfield 30, 3) := by decide +kernel
set_option maxRecDepth 10000 in
set_option maxHeartbeats 4000000 in
theorem w_Told_whispers {q : QT} {z : ZT} {this : Nat} {a2 : Int32} {μ : Mm} {ν : Ml} (C : Ctx sdX q z prog_10_method_5_code "BesideTom$ToldKind" 3 2 (some (FieldType.int))) (h_this : this ∈ kd_Told) : R sdX q z 3 (φIm ν) (F_Told_whispers this a2 μ) μ ν 0 [(0, .ref (q.2.2.1 this)), (1, .ref (q.2.2.1 11)), (2, .int a2)] [] := by
  unfold F_Told_whispers
  refine R_aload_n C 1 d_Told_whispers_0 rfl rfl ?_
  refine R_bipush C d_Told_whispers_1 (v := 71) (by decide +kernel) ?_
  refine R_bind (fun μ1 h2 => ?_)
  refine R_callV C xm_11 (xc_11 q _ _) rfl cf_Trace_begins rfl ml_Told_17 im_Trace_begins sl_Trace_Trace_begins_Trace_begins (c_Trace_begins (gk C) h2) (by decide) (by decide) rfl rfl (Nat.le_of_ble_eq_true rfl) d_Told_whispers_3 ?_
  refine R_aload_n C 0 d_Told_whispers_6 rfl rfl ?_
  refine R_aload_n C 1 d_Told_whispers_7 rfl rfl ?_
  refine R_iload_n C 2 d_Told_whispers_8 rfl rfl ?_
  refine R_bind (fun r_ h5 => ?_)
  obtain ⟨v3, μ4⟩ := r_
  obtain ⟨ci_, Cn_, T_, N_, hq1_, hq2_⟩ := kc_0 (kdup (A := kd_Told) (by decide) h_this) q (μ1 this) (ν this)
  refine R_callSO C (ke_0 (kdup (A := kd_Told) (by decide) h_this)) hq1_ hq2_ cf_PK_whispers (x := ⟨"BesideTom$ShortKind", "whispers", "(LBesideTom$Trace;I)I"⟩) (by decide) rfl ml_Told_27 sa_Short_PK_whispers su_Told_Short su_Short_PK im_PK_whispers (c_PK_whispers (gk C) (kdup (A := kd_Told) (by decide) h_this) h5) (by decide) (by decide) rfl rfl (Nat.le_of_ble_eq_true rfl) d_Told_whispers_9 ?_
  refine R_aload_n C 1 d_Told_whispers_12 rfl rfl ?_
  refine gf_Trace_v C fl_Told_30 d_Told_whispers_13 ?_
  refine R_ixor C d_Told_whispers_16 ?_
  exact R_iret C rfl d_Told_whispers_17
theorem c_Told_whispers {q : QT} (hg : GOk sdX q) {this : Nat} {a2 : Int32} {μ : Mm} {ν : Ml} (h_this : this ∈ kd_Told) {o : Int32 × Mm} (ho : F_Told_whispers this a2 μ = some o) : Ct sdX q y_Told_whispers prog_10_method_5_code 3 (some (FieldType.int)) 2 [.ref (q.2.2.1 this), .ref (q.2.2.1 11), .int a2] μ ν ((φIm ν) o).1 ((φIm ν) o).2.1 ((φIm ν) o).2.2 := Ct_of rfl hg (fun z C => w_Told_whispers C h_this) (Nat.le_of_ble_eq_true rfl) ho
def F_Tom_whispers (this : Nat) (a2 : Int32) (μ : Mm) : Option (Int32 × Mm) := (F_Trace_begins 50 μ).bind fun μ1 => (F_PK_whispers this a2 μ1).bind fun p_ => match p_ with | (v3, μ4) => some ((-v3), μ4)
theorem d_Tom_whispers_0 : decode prog_11_method_4_code 0 = .ok (.aload_n 1, 1) := by decide +kernel
theorem d_Tom_whispers_1 : decode prog_11_method_4_code 1 = .ok (.bipush 50, 2) := by decide +kernel
theorem d_Tom_whispers_3 : decode prog_11_method_4_code 3 = .ok (.invokevirtual 15, 3) := by decide +kernel
theorem d_Tom_whispers_6 : decode prog_11_method_4_code 6 = .ok (.aload_n 0, 1) := by decide +kernel
theorem d_Tom_whispers_7 : decode prog_11_method_4_code 7 = .ok (.aload_n 1, 1) := by decide +kernel
theorem d_Tom_whispers_8 : decode prog_11_method_4_code 8 = .ok (.iload_n 2, 1) := by decide +kernel
theorem d_Tom_whispers_9 : decode prog_11_method_4_code 9 = .ok (.invokespecial 21, 3) := by decide +kernel
theorem d_Tom_whispers_12 : decode prog_11_method_4_code 12 = .ok (.ineg, 1) := by decide +kernel
theorem d_Tom_whispers_13 : decode prog_11_method_4_code 13 = .ok (.ireturn, 1) := by decide +kernel
set_option maxRecDepth 10000 in
set_option maxHeartbeats 4000000 in
theorem w_Tom_whispers {q : QT} {z : ZT} {this : Nat} {a2 : Int32} {μ : Mm} {ν : Ml} (C : Ctx sdX q z prog_11_method_4_code "BesideTom$TomKind" 3 2 (some (FieldType.int))) (h_this : this ∈ kd_Tom) : R sdX q z 3 (φIm ν) (F_Tom_whispers this a2 μ) μ ν 0 [(0, .ref (q.2.2.1 this)), (1, .ref (q.2.2.1 11)), (2, .int a2)] [] := by
  unfold F_Tom_whispers
  refine R_aload_n C 1 d_Tom_whispers_0 rfl rfl ?_
  refine R_bipush C d_Tom_whispers_1 (v := 50) (by decide +kernel) ?_
  refine R_bind (fun μ1 h2 => ?_)
  refine R_callV C xm_11 (xc_11 q _ _) rfl cf_Trace_begins rfl ml_Tom_15 im_Trace_begins sl_Trace_Trace_begins_Trace_begins (c_Trace_begins (gk C) h2) (by decide) (by decide) rfl rfl (Nat.le_of_ble_eq_true rfl) d_Tom_whispers_3 ?_
  refine R_aload_n C 0 d_Tom_whispers_6 rfl rfl ?_
  refine R_aload_n C 1 d_Tom_whispers_7 rfl rfl ?_
  refine R_iload_n C 2 d_Tom_whispers_8 rfl rfl ?_
  refine R_bind (fun r_ h5 => ?_)
  obtain ⟨v3, μ4⟩ := r_
  obtain ⟨ci_, Cn_, T_, N_, hq1_, hq2_⟩ := kc_0 (kdup (A := kd_Tom) (by decide) h_this) q (μ1 this) (ν this)
  refine R_callSO C (ke_0 (kdup (A := kd_Tom) (by decide) h_this)) hq1_ hq2_ cf_PK_whispers (x := ⟨"BesideTom$TalkerKind", "whispers", "(LBesideTom$Trace;I)I"⟩) (by decide) rfl ml_Tom_21 sa_Talk_PK_whispers su_Tom_Talk su_Talk_PK im_PK_whispers (c_PK_whispers (gk C) (kdup (A := kd_Tom) (by decide) h_this) h5) (by decide) (by decide) rfl rfl (Nat.le_of_ble_eq_true rfl) d_Tom_whispers_9 ?_
  refine R_ineg C d_Tom_whispers_12 ?_
  exact R_iret C rfl d_Tom_whispers_13
theorem c_Tom_whispers {q : QT} (hg : GOk sdX q) {this : Nat} {a2 : Int32} {μ : Mm} {ν : Ml} (h_this : this ∈ kd_Tom) {o : Int32 × Mm} (ho : F_Tom_whispers this a2 μ = some o) : Ct sdX q y_Tom_whispers prog_11_method_4_code 3 (some (FieldType.int)) 2 [.ref (q.2.2.1 this), .ref (q.2.2.1 11), .int a2] μ ν ((φIm ν) o).1 ((φIm ν) o).2.1 ((φIm ν) o).2.2 := Ct_of rfl hg (fun z C => w_Tom_whispers C h_this) (Nat.le_of_ble_eq_true rfl) ho
section VV
variable {β : Type} {q : QT} {z : ZT} {cc : ByteArray} {own : String} {nL rk : Nat} {ret : Option FieldType} {φ : β → Option Value × Mm × Ml} {f : Option β} {μ : Mm} {ν : Ml} {pc : Nat} {lv : List (Nat × Value)} {st : List Value}
def V_isUnder (b : Nat) (a1 : Int32) : Option (Int32) := if b = 24 then F_PK_isUnder b a1 else if b = 25 then F_Talk_isUnder b a1 else if b = 26 then F_Quiet_isUnder b a1 else if b = 27 then F_Short_isUnder b a1 else if b = 28 then F_Tom_isUnder b a1 else if b = 29 then F_Cork_isUnder b a1 else if b = 30 then F_Told_isUnder b a1 else none
set_option maxRecDepth 10000 in
theorem VisUnder_PK_c (C : Ctx sdX q z cc own nL rk ret) {b index : Nat} (h : b ∈ kd_PK) (hm : Cond.methodLink own index y_PK_isUnder ∈ gW) {a1 : Int32} {r : Int32} (hr : V_isUnder b a1 = some r) (hrk : 2 + 1 ≤ rk) (hw : (st.map fun v => v.category).sum ≤ 8) (hd : decode cc pc = .ok (.invokevirtual index, 3)) (k : R sdX q z nL φ f μ ν (pc + 3) lv (.int r :: st)) : R sdX q z nL φ f μ ν pc lv (.int a1 :: .ref (q.2.2.1 b) :: st) := by
  rcases List.mem_cons.mp h with rfl | h
  · have hr2 : F_PK_isUnder 24 a1 = some r := hr
    exact R_callU C xm_24 (xc_24 q _ _) rfl cf_PK_isUnder (owner := "BesideTom$PupilKind") (x := y_PK_isUnder) cf_PK_isUnder cf_PK_isUnder.2.2.2 hm sa_PK_PK_isUnder im_PK_isUnder sl_PK_PK_isUnder_PK_isUnder im_PK_isUnder (c_PK_isUnder (gk C) (by decide) hr2) (Nat.le_trans (by decide) hrk) (by decide) (As := [.int a1]) rfl rfl hw hd k
  rcases List.mem_cons.mp h with rfl | h
  · have hr2 : F_Talk_isUnder 25 a1 = some r := hr
    exact R_callU C xm_25 (xc_25 q _ _) rfl cf_Talk_isUnder (owner := "BesideTom$PupilKind") (x := y_PK_isUnder) cf_PK_isUnder cf_PK_isUnder.2.2.2 hm sa_PK_PK_isUnder im_PK_isUnder sl_Talk_PK_isUnder_Talk_isUnder im_Talk_isUnder (c_Talk_isUnder (gk C) (by decide) hr2) (Nat.le_trans (by decide) hrk) (by decide) (As := [.int a1]) rfl rfl hw hd k
  rcases List.mem_cons.mp h with rfl | h
  · have hr2 : F_Quiet_isUnder 26 a1 = some r := hr
    exact R_callU C xm_26 (xc_26 q _ _) rfl cf_Quiet_isUnder (owner := "BesideTom$PupilKind") (x := y_PK_isUnder) cf_PK_isUnder cf_PK_isUnder.2.2.2 hm sa_PK_PK_isUnder im_PK_isUnder sl_Quiet_PK_isUnder_Quiet_isUnder im_Quiet_isUnder (c_Quiet_isUnder (gk C) (by decide) hr2) (Nat.le_trans (by decide) hrk) (by decide) (As := [.int a1]) rfl rfl hw hd k
  rcases List.mem_cons.mp h with rfl | h
  · have hr2 : F_Short_isUnder 27 a1 = some r := hr
    exact R_callU C xm_27 (xc_27 q _ _) rfl cf_Short_isUnder (owner := "BesideTom$PupilKind") (x := y_PK_isUnder) cf_PK_isUnder cf_PK_isUnder.2.2.2 hm sa_PK_PK_isUnder im_PK_isUnder sl_Short_PK_isUnder_Short_isUnder im_Short_isUnder (c_Short_isUnder (gk C) (by decide) hr2) (Nat.le_trans (by decide) hrk) (by decide) (As := [.int a1]) rfl rfl hw hd k
  rcases List.mem_cons.mp h with rfl | h
  · have hr2 : F_Tom_isUnder 28 a1 = some r := hr
    exact R_callU C xm_28 (xc_28 q _ _) rfl cf_Tom_isUnder (owner := "BesideTom$PupilKind") (x := y_PK_isUnder) cf_PK_isUnder cf_PK_isUnder.2.2.2 hm sa_PK_PK_isUnder im_PK_isUnder sl_Tom_PK_isUnder_Tom_isUnder im_Tom_isUnder (c_Tom_isUnder (gk C) (by decide) hr2) (Nat.le_trans (by decide) hrk) (by decide) (As := [.int a1]) rfl rfl hw hd k
  rcases List.mem_cons.mp h with rfl | h
  · have hr2 : F_Cork_isUnder 29 a1 = some r := hr
    exact R_callU C xm_29 (xc_29 q _ _) rfl cf_Cork_isUnder (owner := "BesideTom$PupilKind") (x := y_PK_isUnder) cf_PK_isUnder cf_PK_isUnder.2.2.2 hm sa_PK_PK_isUnder im_PK_isUnder sl_Cork_PK_isUnder_Cork_isUnder im_Cork_isUnder (c_Cork_isUnder (gk C) (by decide) hr2) (Nat.le_trans (by decide) hrk) (by decide) (As := [.int a1]) rfl rfl hw hd k
  cases List.mem_singleton.mp h
  have hr2 : F_Told_isUnder 30 a1 = some r := hr
  exact R_callU C xm_30 (xc_30 q _ _) rfl cf_Told_isUnder (owner := "BesideTom$PupilKind") (x := y_PK_isUnder) cf_PK_isUnder cf_PK_isUnder.2.2.2 hm sa_PK_PK_isUnder im_PK_isUnder sl_Told_PK_isUnder_Told_isUnder im_Told_isUnder (c_Told_isUnder (gk C) (by decide) hr2) (Nat.le_trans (by decide) hrk) (by decide) (As := [.int a1]) rfl rfl hw hd k

end VV
section VV
variable {β : Type} {q : QT} {z : ZT} {cc : ByteArray} {own : String} {nL rk : Nat} {ret : Option FieldType} {φ : β → Option Value × Mm × Ml} {f : Option β} {μ : Mm} {ν : Ml} {pc : Nat} {lv : List (Nat × Value)} {st : List Value}
def V_learning (b : Nat) (a1 : Int32) (a2 : Int32) (a3 : Int32) (a4 : Int32) : Option (Int32) := if b = 24 then F_PK_learning b a1 a2 a3 a4 else if b = 25 then F_PK_learning b a1 a2 a3 a4 else if b = 26 then F_Quiet_learning b a1 a2 a3 a4 else if b = 27 then F_Short_learning b a1 a2 a3 a4 else if b = 28 then F_PK_learning b a1 a2 a3 a4 else if b = 29 then F_Cork_learning b a1 a2 a3 a4 else if b = 30 then F_Short_learning b a1 a2 a3 a4 else none
set_option maxRecDepth 10000 in
theorem Vlearning_PK_c (C : Ctx sdX q z cc own nL rk ret) {b index : Nat} (h : b ∈ kd_PK) (hm : Cond.methodLink own index y_PK_learning ∈ gW) {a1 : Int32} {a2 : Int32} {a3 : Int32} {a4 : Int32} {r : Int32} (hr : V_learning b a1 a2 a3 a4 = some r) (hrk : 2 + 1 ≤ rk) (hw : (st.map fun v => v.category).sum ≤ 8) (hd : decode cc pc = .ok (.invokevirtual index, 3)) (k : R sdX q z nL φ f μ ν (pc + 3) lv (.int r :: st)) : R sdX q z nL φ f μ ν pc lv (.int a4 :: .int a3 :: .int a2 :: .int a1 :: .ref (q.2.2.1 b) :: st) := by
  rcases List.mem_cons.mp h with rfl | h
  · have hr2 : F_PK_learning 24 a1 a2 a3 a4 = some r := hr
    exact R_callU C xm_24 (xc_24 q _ _) rfl cf_PK_learning (owner := "BesideTom$PupilKind") (x := y_PK_learning) cf_PK_learning cf_PK_learning.2.2.2 hm sa_PK_PK_learning im_PK_learning sl_PK_PK_learning_PK_learning im_PK_learning (c_PK_learning (gk C) (by decide) hr2) (Nat.le_trans (by decide) hrk) (by decide) (As := [.int a1, .int a2, .int a3, .int a4]) rfl rfl hw hd k
  rcases List.mem_cons.mp h with rfl | h
  · have hr2 : F_PK_learning 25 a1 a2 a3 a4 = some r := hr
    exact R_callU C xm_25 (xc_25 q _ _) rfl cf_PK_learning (owner := "BesideTom$PupilKind") (x := y_PK_learning) cf_PK_learning cf_PK_learning.2.2.2 hm sa_PK_PK_learning im_PK_learning sl_Talk_PK_learning_PK_learning im_PK_learning (c_PK_learning (gk C) (by decide) hr2) (Nat.le_trans (by decide) hrk) (by decide) (As := [.int a1, .int a2, .int a3, .int a4]) rfl rfl hw hd k
  rcases List.mem_cons.mp h with rfl | h
  · have hr2 : F_Quiet_learning 26 a1 a2 a3 a4 = some r := hr
    exact R_callU C xm_26 (xc_26 q _ _) rfl cf_Quiet_learning (owner := "BesideTom$PupilKind") (x := y_PK_learning) cf_PK_learning cf_PK_learning.2.2.2 hm sa_PK_PK_learning im_PK_learning sl_Quiet_PK_learning_Quiet_learning im_Quiet_learning (c_Quiet_learning (gk C) (by decide) hr2) (Nat.le_trans (by decide) hrk) (by decide) (As := [.int a1, .int a2, .int a3, .int a4]) rfl rfl hw hd k
  rcases List.mem_cons.mp h with rfl | h
  · have hr2 : F_Short_learning 27 a1 a2 a3 a4 = some r := hr
    exact R_callU C xm_27 (xc_27 q _ _) rfl cf_Short_learning (owner := "BesideTom$PupilKind") (x := y_PK_learning) cf_PK_learning cf_PK_learning.2.2.2 hm sa_PK_PK_learning im_PK_learning sl_Short_PK_learning_Short_learning im_Short_learning (c_Short_learning (gk C) (by decide) hr2) (Nat.le_trans (by decide) hrk) (by decide) (As := [.int a1, .int a2, .int a3, .int a4]) rfl rfl hw hd k
  rcases List.mem_cons.mp h with rfl | h
  · have hr2 : F_PK_learning 28 a1 a2 a3 a4 = some r := hr
    exact R_callU C xm_28 (xc_28 q _ _) rfl cf_PK_learning (owner := "BesideTom$PupilKind") (x := y_PK_learning) cf_PK_learning cf_PK_learning.2.2.2 hm sa_PK_PK_learning im_PK_learning sl_Tom_PK_learning_PK_learning im_PK_learning (c_PK_learning (gk C) (by decide) hr2) (Nat.le_trans (by decide) hrk) (by decide) (As := [.int a1, .int a2, .int a3, .int a4]) rfl rfl hw hd k
  rcases List.mem_cons.mp h with rfl | h
  · have hr2 : F_Cork_learning 29 a1 a2 a3 a4 = some r := hr
    exact R_callU C xm_29 (xc_29 q _ _) rfl cf_Cork_learning (owner := "BesideTom$PupilKind") (x := y_PK_learning) cf_PK_learning cf_PK_learning.2.2.2 hm sa_PK_PK_learning im_PK_learning sl_Cork_PK_learning_Cork_learning im_Cork_learning (c_Cork_learning (gk C) (by decide) hr2) (Nat.le_trans (by decide) hrk) (by decide) (As := [.int a1, .int a2, .int a3, .int a4]) rfl rfl hw hd k
  cases List.mem_singleton.mp h
  have hr2 : F_Short_learning 30 a1 a2 a3 a4 = some r := hr
  exact R_callU C xm_30 (xc_30 q _ _) rfl cf_Short_learning (owner := "BesideTom$PupilKind") (x := y_PK_learning) cf_PK_learning cf_PK_learning.2.2.2 hm sa_PK_PK_learning im_PK_learning sl_Told_PK_learning_Short_learning im_Short_learning (c_Short_learning (gk C) (by decide) hr2) (Nat.le_trans (by decide) hrk) (by decide) (As := [.int a1, .int a2, .int a3, .int a4]) rfl rfl hw hd k

end VV
section VV
variable {β : Type} {q : QT} {z : ZT} {cc : ByteArray} {own : String} {nL rk : Nat} {ret : Option FieldType} {φ : β → Option Value × Mm × Ml} {f : Option β} {μ : Mm} {ν : Ml} {pc : Nat} {lv : List (Nat × Value)} {st : List Value}
def V_voice (b : Nat) (a1 : Int32) (a2 : Int32) (a3 : Int32) (a4 : Int32) : Option (Int32) := if b = 24 then F_PK_voice b a1 a2 a3 a4 else if b = 25 then F_Talk_voice b a1 a2 a3 a4 else if b = 26 then F_Quiet_voice b a1 a2 a3 a4 else if b = 27 then F_PK_voice b a1 a2 a3 a4 else if b = 28 then F_Tom_voice b a1 a2 a3 a4 else if b = 29 then F_Cork_voice b a1 a2 a3 a4 else if b = 30 then F_Told_voice b a1 a2 a3 a4 else none
set_option maxRecDepth 10000 in
theorem Vvoice_PK_c (C : Ctx sdX q z cc own nL rk ret) {b index : Nat} (h : b ∈ kd_PK) (hm : Cond.methodLink own index y_PK_voice ∈ gW) {a1 : Int32} {a2 : Int32} {a3 : Int32} {a4 : Int32} {r : Int32} (hr : V_voice b a1 a2 a3 a4 = some r) (hrk : 2 + 1 ≤ rk) (hw : (st.map fun v => v.category).sum ≤ 8) (hd : decode cc pc = .ok (.invokevirtual index, 3)) (k : R sdX q z nL φ f μ ν (pc + 3) lv (.int r :: st)) : R sdX q z nL φ f μ ν pc lv (.int a4 :: .int a3 :: .int a2 :: .int a1 :: .ref (q.2.2.1 b) :: st) := by
  rcases List.mem_cons.mp h with rfl | h
  · have hr2 : F_PK_voice 24 a1 a2 a3 a4 = some r := hr
    exact R_callU C xm_24 (xc_24 q _ _) rfl cf_PK_voice (owner := "BesideTom$PupilKind") (x := y_PK_voice) cf_PK_voice cf_PK_voice.2.2.2 hm sa_PK_PK_voice im_PK_voice sl_PK_PK_voice_PK_voice im_PK_voice (c_PK_voice (gk C) (by decide) hr2) (Nat.le_trans (by decide) hrk) (by decide) (As := [.int a1, .int a2, .int a3, .int a4]) rfl rfl hw hd k
  rcases List.mem_cons.mp h with rfl | h
  · have hr2 : F_Talk_voice 25 a1 a2 a3 a4 = some r := hr
    exact R_callU C xm_25 (xc_25 q _ _) rfl cf_Talk_voice (owner := "BesideTom$PupilKind") (x := y_PK_voice) cf_PK_voice cf_PK_voice.2.2.2 hm sa_PK_PK_voice im_PK_voice sl_Talk_PK_voice_Talk_voice im_Talk_voice (c_Talk_voice (gk C) (by decide) hr2) (Nat.le_trans (by decide) hrk) (by decide) (As := [.int a1, .int a2, .int a3, .int a4]) rfl rfl hw hd k
  rcases List.mem_cons.mp h with rfl | h
  · have hr2 : F_Quiet_voice 26 a1 a2 a3 a4 = some r := hr
    exact R_callU C xm_26 (xc_26 q _ _) rfl cf_Quiet_voice (owner := "BesideTom$PupilKind") (x := y_PK_voice) cf_PK_voice cf_PK_voice.2.2.2 hm sa_PK_PK_voice im_PK_voice sl_Quiet_PK_voice_Quiet_voice im_Quiet_voice (c_Quiet_voice (gk C) (by decide) hr2) (Nat.le_trans (by decide) hrk) (by decide) (As := [.int a1, .int a2, .int a3, .int a4]) rfl rfl hw hd k
  rcases List.mem_cons.mp h with rfl | h
  · have hr2 : F_PK_voice 27 a1 a2 a3 a4 = some r := hr
    exact R_callU C xm_27 (xc_27 q _ _) rfl cf_PK_voice (owner := "BesideTom$PupilKind") (x := y_PK_voice) cf_PK_voice cf_PK_voice.2.2.2 hm sa_PK_PK_voice im_PK_voice sl_Short_PK_voice_PK_voice im_PK_voice (c_PK_voice (gk C) (by decide) hr2) (Nat.le_trans (by decide) hrk) (by decide) (As := [.int a1, .int a2, .int a3, .int a4]) rfl rfl hw hd k
  rcases List.mem_cons.mp h with rfl | h
  · have hr2 : F_Tom_voice 28 a1 a2 a3 a4 = some r := hr
    exact R_callU C xm_28 (xc_28 q _ _) rfl cf_Tom_voice (owner := "BesideTom$PupilKind") (x := y_PK_voice) cf_PK_voice cf_PK_voice.2.2.2 hm sa_PK_PK_voice im_PK_voice sl_Tom_PK_voice_Tom_voice im_Tom_voice (c_Tom_voice (gk C) (by decide) hr2) (Nat.le_trans (by decide) hrk) (by decide) (As := [.int a1, .int a2, .int a3, .int a4]) rfl rfl hw hd k
  rcases List.mem_cons.mp h with rfl | h
  · have hr2 : F_Cork_voice 29 a1 a2 a3 a4 = some r := hr
    exact R_callU C xm_29 (xc_29 q _ _) rfl cf_Cork_voice (owner := "BesideTom$PupilKind") (x := y_PK_voice) cf_PK_voice cf_PK_voice.2.2.2 hm sa_PK_PK_voice im_PK_voice sl_Cork_PK_voice_Cork_voice im_Cork_voice (c_Cork_voice (gk C) (by decide) hr2) (Nat.le_trans (by decide) hrk) (by decide) (As := [.int a1, .int a2, .int a3, .int a4]) rfl rfl hw hd k
  cases List.mem_singleton.mp h
  have hr2 : F_Told_voice 30 a1 a2 a3 a4 = some r := hr
  exact R_callU C xm_30 (xc_30 q _ _) rfl cf_Told_voice (owner := "BesideTom$PupilKind") (x := y_PK_voice) cf_PK_voice cf_PK_voice.2.2.2 hm sa_PK_PK_voice im_PK_voice sl_Told_PK_voice_Told_voice im_Told_voice (c_Told_voice (gk C) (by decide) hr2) (Nat.le_trans (by decide) hrk) (by decide) (As := [.int a1, .int a2, .int a3, .int a4]) rfl rfl hw hd k

end VV
section VV
variable {β : Type} {q : QT} {z : ZT} {cc : ByteArray} {own : String} {nL rk : Nat} {ret : Option FieldType} {φ : β → Option Value × Mm × Ml} {f : Option β} {μ : Mm} {ν : Ml} {pc : Nat} {lv : List (Nat × Value)} {st : List Value}
def V_whispers (b : Nat) (a2 : Int32) (μ : Mm) : Option (Int32 × Mm) := if b = 24 then F_PK_whispers b a2 μ else if b = 25 then F_PK_whispers b a2 μ else if b = 26 then F_Quiet_whispers b a2 μ else if b = 27 then F_PK_whispers b a2 μ else if b = 28 then F_Tom_whispers b a2 μ else if b = 29 then F_Quiet_whispers b a2 μ else if b = 30 then F_Told_whispers b a2 μ else none
set_option maxRecDepth 10000 in
theorem Vwhispers_PK_c (C : Ctx sdX q z cc own nL rk ret) {b index : Nat} (h : b ∈ kd_PK) (hm : Cond.methodLink own index y_PK_whispers ∈ gW) {a2 : Int32} {r : Int32 × Mm} (hr : V_whispers b a2 μ = some r) (hrk : 2 + 1 ≤ rk) (hw : (st.map fun v => v.category).sum ≤ 8) (hd : decode cc pc = .ok (.invokevirtual index, 3)) (k : R sdX q z nL φ f r.2 ν (pc + 3) lv (.int r.1 :: st)) : R sdX q z nL φ f μ ν pc lv (.int a2 :: .ref (q.2.2.1 11) :: .ref (q.2.2.1 b) :: st) := by
  rcases List.mem_cons.mp h with rfl | h
  · have hr2 : F_PK_whispers 24 a2 μ = some r := hr
    exact R_callU C xm_24 (xc_24 q _ _) rfl cf_PK_whispers (owner := "BesideTom$PupilKind") (x := y_PK_whispers) cf_PK_whispers cf_PK_whispers.2.2.2 hm sa_PK_PK_whispers im_PK_whispers sl_PK_PK_whispers_PK_whispers im_PK_whispers (c_PK_whispers (gk C) (by decide) hr2) (Nat.le_trans (by decide) hrk) (by decide) (As := [.ref (q.2.2.1 11), .int a2]) rfl rfl hw hd k
  rcases List.mem_cons.mp h with rfl | h
  · have hr2 : F_PK_whispers 25 a2 μ = some r := hr
    exact R_callU C xm_25 (xc_25 q _ _) rfl cf_PK_whispers (owner := "BesideTom$PupilKind") (x := y_PK_whispers) cf_PK_whispers cf_PK_whispers.2.2.2 hm sa_PK_PK_whispers im_PK_whispers sl_Talk_PK_whispers_PK_whispers im_PK_whispers (c_PK_whispers (gk C) (by decide) hr2) (Nat.le_trans (by decide) hrk) (by decide) (As := [.ref (q.2.2.1 11), .int a2]) rfl rfl hw hd k
  rcases List.mem_cons.mp h with rfl | h
  · have hr2 : F_Quiet_whispers 26 a2 μ = some r := hr
    exact R_callU C xm_26 (xc_26 q _ _) rfl cf_Quiet_whispers (owner := "BesideTom$PupilKind") (x := y_PK_whispers) cf_PK_whispers cf_PK_whispers.2.2.2 hm sa_PK_PK_whispers im_PK_whispers sl_Quiet_PK_whispers_Quiet_whispers im_Quiet_whispers (c_Quiet_whispers (gk C) (by decide) hr2) (Nat.le_trans (by decide) hrk) (by decide) (As := [.ref (q.2.2.1 11), .int a2]) rfl rfl hw hd k
  rcases List.mem_cons.mp h with rfl | h
  · have hr2 : F_PK_whispers 27 a2 μ = some r := hr
    exact R_callU C xm_27 (xc_27 q _ _) rfl cf_PK_whispers (owner := "BesideTom$PupilKind") (x := y_PK_whispers) cf_PK_whispers cf_PK_whispers.2.2.2 hm sa_PK_PK_whispers im_PK_whispers sl_Short_PK_whispers_PK_whispers im_PK_whispers (c_PK_whispers (gk C) (by decide) hr2) (Nat.le_trans (by decide) hrk) (by decide) (As := [.ref (q.2.2.1 11), .int a2]) rfl rfl hw hd k
  rcases List.mem_cons.mp h with rfl | h
  · have hr2 : F_Tom_whispers 28 a2 μ = some r := hr
    exact R_callU C xm_28 (xc_28 q _ _) rfl cf_Tom_whispers (owner := "BesideTom$PupilKind") (x := y_PK_whispers) cf_PK_whispers cf_PK_whispers.2.2.2 hm sa_PK_PK_whispers im_PK_whispers sl_Tom_PK_whispers_Tom_whispers im_Tom_whispers (c_Tom_whispers (gk C) (by decide) hr2) (Nat.le_trans (by decide) hrk) (by decide) (As := [.ref (q.2.2.1 11), .int a2]) rfl rfl hw hd k
  rcases List.mem_cons.mp h with rfl | h
  · have hr2 : F_Quiet_whispers 29 a2 μ = some r := hr
    exact R_callU C xm_29 (xc_29 q _ _) rfl cf_Quiet_whispers (owner := "BesideTom$PupilKind") (x := y_PK_whispers) cf_PK_whispers cf_PK_whispers.2.2.2 hm sa_PK_PK_whispers im_PK_whispers sl_Cork_PK_whispers_Quiet_whispers im_Quiet_whispers (c_Quiet_whispers (gk C) (by decide) hr2) (Nat.le_trans (by decide) hrk) (by decide) (As := [.ref (q.2.2.1 11), .int a2]) rfl rfl hw hd k
  cases List.mem_singleton.mp h
  have hr2 : F_Told_whispers 30 a2 μ = some r := hr
  exact R_callU C xm_30 (xc_30 q _ _) rfl cf_Told_whispers (owner := "BesideTom$PupilKind") (x := y_PK_whispers) cf_PK_whispers cf_PK_whispers.2.2.2 hm sa_PK_PK_whispers im_PK_whispers sl_Told_PK_whispers_Told_whispers im_Told_whispers (c_Told_whispers (gk C) (by decide) hr2) (Nat.le_trans (by decide) hrk) (by decide) (As := [.ref (q.2.2.1 11), .int a2]) rfl rfl hw hd k

end VV
def F_PK_chats (this : Nat) (a2 : Int32) (μ : Mm) : Option (Int32 × Mm) := (F_Trace_begins 11 μ).bind fun μ1 => (V_whispers this a2 μ1).bind fun p_ => match p_ with | (v3, μ4) => some ((v3 - (μ4 11 3)), μ4)
theorem d_PK_chats_0 : decode prog_3_method_6_code 0 = .ok (.aload_n 1, 1) := by decide +kernel
theorem d_PK_chats_1 : decode prog_3_method_6_code 1 = .ok (.bipush 11, 2) := by decide +kernel
theorem d_PK_chats_3 : decode prog_3_method_6_code 3 = .ok (.invokevirtual 7, 3) := by decide +kernel
theorem d_PK_chats_6 : decode prog_3_method_6_code 6 = .ok (.aload_n 0, 1) := by decide +kernel
theorem d_PK_chats_7 : decode prog_3_method_6_code 7 = .ok (.aload_n 1, 1) := by decide +kernel
theorem d_PK_chats_8 : decode prog_3_method_6_code 8 = .ok (.iload_n 2, 1) := by decide +kernel
theorem d_PK_chats_9 : decode prog_3_method_6_code 9 = .ok (.invokevirtual 17, 3) := by decide +kernel
theorem d_PK_chats_12 : decode prog_3_method_6_code 12 = .ok (.aload_n 1, 1) := by decide +kernel
theorem d_PK_chats_16 : decode prog_3_method_6_code 16 = .ok (.isub, 1) := by decide +kernel
theorem d_PK_chats_17 : decode prog_3_method_6_code 17 = .ok (.ireturn, 1) := by decide +kernel
theorem d_PK_chats_13 : decode prog_3_method_6_code 13 = .ok (.getfield 23, 3) := by decide +kernel
set_option maxRecDepth 10000 in
set_option maxHeartbeats 4000000 in
theorem w_PK_chats {q : QT} {z : ZT} {this : Nat} {a2 : Int32} {μ : Mm} {ν : Ml} (C : Ctx sdX q z prog_3_method_6_code "BesideTom$PupilKind" 3 3 (some (FieldType.int))) (h_this : this ∈ kd_PK) : R sdX q z 3 (φIm ν) (F_PK_chats this a2 μ) μ ν 0 [(0, .ref (q.2.2.1 this)), (1, .ref (q.2.2.1 11)), (2, .int a2)] [] := by
  unfold F_PK_chats
  refine R_aload_n C 1 d_PK_chats_0 rfl rfl ?_
  refine R_bipush C d_PK_chats_1 (v := 11) (by decide +kernel) ?_
  refine R_bind (fun μ1 h2 => ?_)
  refine R_callV C xm_11 (xc_11 q _ _) rfl cf_Trace_begins rfl ml_PK_7 im_Trace_begins sl_Trace_Trace_begins_Trace_begins (c_Trace_begins (gk C) h2) (by decide) (by decide) rfl rfl (Nat.le_of_ble_eq_true rfl) d_PK_chats_3 ?_
  refine R_aload_n C 0 d_PK_chats_6 rfl rfl ?_
  refine R_aload_n C 1 d_PK_chats_7 rfl rfl ?_
  refine R_iload_n C 2 d_PK_chats_8 rfl rfl ?_
  refine R_bind (fun r_ h5 => ?_)
  obtain ⟨v3, μ4⟩ := r_
  refine Vwhispers_PK_c C h_this ml_PK_17 h5 (by decide) (Nat.le_of_ble_eq_true rfl) d_PK_chats_9 ?_
  refine R_aload_n C 1 d_PK_chats_12 rfl rfl ?_
  refine gf_Trace_v C fl_PK_23 d_PK_chats_13 ?_
  refine R_isub C d_PK_chats_16 ?_
  exact R_iret C rfl d_PK_chats_17
theorem c_PK_chats {q : QT} (hg : GOk sdX q) {this : Nat} {a2 : Int32} {μ : Mm} {ν : Ml} (h_this : this ∈ kd_PK) {o : Int32 × Mm} (ho : F_PK_chats this a2 μ = some o) : Ct sdX q y_PK_chats prog_3_method_6_code 3 (some (FieldType.int)) 3 [.ref (q.2.2.1 this), .ref (q.2.2.1 11), .int a2] μ ν ((φIm ν) o).1 ((φIm ν) o).2.1 ((φIm ν) o).2.2 := Ct_of rfl hg (fun z C => w_PK_chats C h_this) (Nat.le_of_ble_eq_true rfl) ho
def F_BT_image (μ : Mm) : Option (Int32 × Mm) := (F_Seat_becomes 80 40 μ).bind fun μ1 => lt_ (up2 μ1 0 3 1) fun μ3 => some ((μ3 40 1), μ3)
theorem d_BT_image_0 : decode prog_1_method_36_code 0 = .ok (.aload_n 0, 1) := by decide +kernel
theorem d_BT_image_4 : decode prog_1_method_36_code 4 = .ok (.aload_n 0, 1) := by decide +kernel
theorem d_BT_image_8 : decode prog_1_method_36_code 8 = .ok (.invokevirtual 192, 3) := by decide +kernel
theorem d_BT_image_11 : decode prog_1_method_36_code 11 = .ok (.aload_n 0, 1) := by decide +kernel
theorem d_BT_image_12 : decode prog_1_method_36_code 12 = .ok (.iconst 1, 1) := by decide +kernel
theorem d_BT_image_16 : decode prog_1_method_36_code 16 = .ok (.aload_n 0, 1) := by decide +kernel
theorem d_BT_image_23 : decode prog_1_method_36_code 23 = .ok (.ireturn, 1) := by decide +kernel
theorem d_BT_image_20 : decode prog_1_method_36_code 20 = .ok (.getfield 80, 3) := by decide +kernel
theorem d_BT_image_17 : decode prog_1_method_36_code 17 = .ok (.getfield 52, 3) := by decide +kernel
theorem d_BT_image_5 : decode prog_1_method_36_code 5 = .ok (.getfield 52, 3) := by decide +kernel
theorem d_BT_image_1 : decode prog_1_method_36_code 1 = .ok (.getfield 59, 3) := by decide +kernel
theorem d_BT_image_13 : decode prog_1_method_36_code 13 = .ok (.putfield 279, 3) := by decide +kernel
set_option maxRecDepth 10000 in
set_option maxHeartbeats 4000000 in
theorem w_BT_image {q : QT} {z : ZT} {μ : Mm} {ν : Ml} (C : Ctx sdX q z prog_1_method_36_code "BesideTom" 1 3 (some (FieldType.int))) : R sdX q z 1 (φIm ν) (F_BT_image μ) μ ν 0 [(0, .ref (q.2.2.1 0))] [] := by
  unfold F_BT_image
  refine R_aload_n C 0 d_BT_image_0 rfl rfl ?_
  refine gf_BT_kept C fl_BT_59 d_BT_image_1 ?_
  refine R_aload_n C 0 d_BT_image_4 rfl rfl ?_
  refine gf_BT_now C fl_BT_52 d_BT_image_5 ?_
  refine R_bind (fun μ1 h2 => ?_)
  refine R_callV C (se_0 s80) (sc_0 s80 q _ _) rfl cf_Seat_becomes rfl ml_BT_192 im_Seat_becomes sl_Seat_Seat_becomes_Seat_becomes (c_Seat_becomes (gk C) s80 s40 h2) (by decide) (by decide) rfl rfl (Nat.le_of_ble_eq_true rfl) d_BT_image_8 ?_
  refine R_aload_n C 0 d_BT_image_11 rfl rfl ?_
  refine R_iconst C d_BT_image_12 (v := 1) (by decide +kernel) ?_
  refine pf_BT_imaged C fl_BT_279 rfl rfl d_BT_image_13 (fun μ3 => ?_)
  refine R_aload_n C 0 d_BT_image_16 rfl rfl ?_
  refine gf_BT_now C fl_BT_52 d_BT_image_17 ?_
  refine gf_Seat_many C s40 fl_BT_80 d_BT_image_20 ?_
  exact R_iret C rfl d_BT_image_23
theorem c_BT_image {q : QT} (hg : GOk sdX q) {μ : Mm} {ν : Ml} {o : Int32 × Mm} (ho : F_BT_image μ = some o) : Ct sdX q y_BT_image prog_1_method_36_code 1 (some (FieldType.int)) 3 [.ref (q.2.2.1 0)] μ ν ((φIm ν) o).1 ((φIm ν) o).2.1 ((φIm ν) o).2.2 := Ct_of rfl hg (fun z C => w_BT_image C) (Nat.le_of_ble_eq_true rfl) ho
def F_Seat_learns (this : Nat) (a1 : Int32) (a2 : Int32) (μ : Mm) : Option (Int32) := (F_Seat_isAway this a1 μ).bind fun v1 => (if v1 = 0 then (F_Seat_neighbours this a1 μ).bind fun v3 => (F_Int_bitCount v3).bind fun v5 => (F_Seat_kindOf this a1 μ).bind fun v7 => (F_BT_cut a2 (μ this 5)).bind fun v9 => (rdI (μ (this + 3)) 6 a1).bind fun v11 => (rdI (μ (this + 2)) 6 a1).bind fun v12 => (V_learning v7 (10 - v9) v5 (v11 / 3) v12).bind fun v13 => lt_ (if 0 < v13 then v13 else 0) fun x15 => some x15 else some 0)
theorem d_Seat_learns_0 : decode prog_7_method_16_code 0 = .ok (.aload_n 0, 1) := by decide +kernel
theorem d_Seat_learns_1 : decode prog_7_method_16_code 1 = .ok (.iload_n 1, 1) := by decide +kernel
theorem d_Seat_learns_2 : decode prog_7_method_16_code 2 = .ok (.invokevirtual 100, 3) := by decide +kernel
theorem d_Seat_learns_10 : decode prog_7_method_16_code 10 = .ok (.aload_n 0, 1) := by decide +kernel
theorem d_Seat_learns_11 : decode prog_7_method_16_code 11 = .ok (.iload_n 1, 1) := by decide +kernel
theorem d_Seat_learns_12 : decode prog_7_method_16_code 12 = .ok (.invokevirtual 107, 3) := by decide +kernel
theorem d_Seat_learns_15 : decode prog_7_method_16_code 15 = .ok (.invokestatic 110, 3) := by decide +kernel
theorem d_Seat_learns_18 : decode prog_7_method_16_code 18 = .ok (.istore_n 3, 1) := by decide +kernel
theorem d_Seat_learns_19 : decode prog_7_method_16_code 19 = .ok (.iconst 0, 1) := by decide +kernel
theorem d_Seat_learns_20 : decode prog_7_method_16_code 20 = .ok (.aload_n 0, 1) := by decide +kernel
theorem d_Seat_learns_21 : decode prog_7_method_16_code 21 = .ok (.iload_n 1, 1) := by decide +kernel
theorem d_Seat_learns_22 : decode prog_7_method_16_code 22 = .ok (.invokevirtual 115, 3) := by decide +kernel
theorem d_Seat_learns_25 : decode prog_7_method_16_code 25 = .ok (.bipush 10, 2) := by decide +kernel
theorem d_Seat_learns_27 : decode prog_7_method_16_code 27 = .ok (.iload_n 2, 1) := by decide +kernel
theorem d_Seat_learns_28 : decode prog_7_method_16_code 28 = .ok (.aload_n 0, 1) := by decide +kernel
theorem d_Seat_learns_32 : decode prog_7_method_16_code 32 = .ok (.invokestatic 136, 3) := by decide +kernel
theorem d_Seat_learns_35 : decode prog_7_method_16_code 35 = .ok (.isub, 1) := by decide +kernel
theorem d_Seat_learns_36 : decode prog_7_method_16_code 36 = .ok (.iload_n 3, 1) := by decide +kernel
theorem d_Seat_learns_37 : decode prog_7_method_16_code 37 = .ok (.aload_n 0, 1) := by decide +kernel
theorem d_Seat_learns_41 : decode prog_7_method_16_code 41 = .ok (.iload_n 1, 1) := by decide +kernel
theorem d_Seat_learns_43 : decode prog_7_method_16_code 43 = .ok (.iconst 3, 1) := by decide +kernel
theorem d_Seat_learns_45 : decode prog_7_method_16_code 45 = .ok (.aload_n 0, 1) := by decide +kernel
theorem d_Seat_learns_49 : decode prog_7_method_16_code 49 = .ok (.iload_n 1, 1) := by decide +kernel
theorem d_Seat_learns_51 : decode prog_7_method_16_code 51 = .ok (.invokevirtual 142, 3) := by decide +kernel
theorem d_Seat_learns_54 : decode prog_7_method_16_code 54 = .ok (.invokestatic 128, 3) := by decide +kernel
theorem d_Seat_learns_57 : decode prog_7_method_16_code 57 = .ok (.ireturn, 1) := by decide +kernel
theorem d_Seat_learns_46 : decode prog_7_method_16_code 46 = .ok (.getfield 25, 3) := by decide +kernel
theorem d_Seat_learns_44 : decode prog_7_method_16_code 44 = .ok (.idiv, 1) := by decide +kernel
theorem d_Seat_learns_38 : decode prog_7_method_16_code 38 = .ok (.getfield 28, 3) := by decide +kernel
theorem d_Seat_learns_29 : decode prog_7_method_16_code 29 = .ok (.getfield 15, 3) := by decide +kernel
theorem d_Seat_learns_8 : decode prog_7_method_16_code 8 = .ok (.iconst 0, 1) := by decide +kernel
theorem d_Seat_learns_9 : decode prog_7_method_16_code 9 = .ok (.ireturn, 1) := by decide +kernel
theorem d_Seat_learns_5 : decode prog_7_method_16_code 5 = .ok (.ifCond .eq 5, 3) := by decide +kernel
theorem d_Seat_learns_42 : decode prog_7_method_16_code 42 = .ok (.iaload, 1) := by decide +kernel
theorem d_Seat_learns_50 : decode prog_7_method_16_code 50 = .ok (.iaload, 1) := by decide +kernel
set_option maxRecDepth 10000 in
set_option maxHeartbeats 4000000 in
theorem w_Seat_learns {q : QT} {z : ZT} {this : Nat} {a1 : Int32} {a2 : Int32} {μ : Mm} {ν : Ml} (C : Ctx sdX q z prog_7_method_16_code "BesideTom$Seating" 4 3 (some (FieldType.int))) (h_this : this ∈ seats) : R sdX q z 4 (φI μ ν) (F_Seat_learns this a1 a2 μ) μ ν 0 [(0, .ref (q.2.2.1 this)), (1, .int a1), (2, .int a2)] [] := by
  unfold F_Seat_learns
  refine R_aload_n C 0 d_Seat_learns_0 rfl rfl ?_
  refine R_iload_n C 1 d_Seat_learns_1 rfl rfl ?_
  refine R_bind (fun v1 h2 => ?_)
  refine R_callV C (se_0 h_this) (sc_0 h_this q _ _) rfl cf_Seat_isAway rfl ml_Seat_100 im_Seat_isAway sl_Seat_Seat_isAway_Seat_isAway (c_Seat_isAway (gk C) h_this h2) (by decide) (by decide) rfl rfl (Nat.le_of_ble_eq_true rfl) d_Seat_learns_2 ?_
  refine R_if_eq C d_Seat_learns_5 (tgt := 10) (by decide) ?_ ?_
  · skip
    refine R_aload_n C 0 d_Seat_learns_10 rfl rfl ?_
    refine R_iload_n C 1 d_Seat_learns_11 rfl rfl ?_
    refine R_bind (fun v3 h4 => ?_)
    refine R_callV C (se_0 h_this) (sc_0 h_this q _ _) rfl cf_Seat_neighbours rfl ml_Seat_107 im_Seat_neighbours sl_Seat_Seat_neighbours_Seat_neighbours (c_Seat_neighbours (gk C) h_this h4) (by decide) (by decide) rfl rfl (Nat.le_of_ble_eq_true rfl) d_Seat_learns_12 ?_
    refine R_bind (fun v5 h6 => ?_)
    refine R_callS C cf_Int_bitCount ml_Seat_110 sm_Int_bitCount (c_Int_bitCount (gk C) h6) (by decide) (by decide) rfl rfl (Nat.le_of_ble_eq_true rfl) d_Seat_learns_15 ?_
    refine R_istore_n C (lv' := [(3, .int v5), (0, .ref (q.2.2.1 this)), (1, .int a1), (2, .int a2)]) d_Seat_learns_18 rfl (by decide) rfl ?_
    refine R_iconst C d_Seat_learns_19 (v := 0) (by decide +kernel) ?_
    refine R_aload_n C 1 d_Seat_learns_20 rfl rfl ?_
    refine R_iload_n C 2 d_Seat_learns_21 rfl rfl ?_
    refine R_bind (fun v7 h8 => ?_)
    refine R_callV C (se_0 h_this) (sc_0 h_this q _ _) rfl cf_Seat_kindOf rfl ml_Seat_115 im_Seat_kindOf sl_Seat_Seat_kindOf_Seat_kindOf (c_Seat_kindOf (gk C) h_this h8) (by decide) (by decide) rfl rfl (Nat.le_of_ble_eq_true rfl) d_Seat_learns_22 ?_
    refine R_bipush C d_Seat_learns_25 (v := 10) (by decide +kernel) ?_
    refine R_iload_n C 3 d_Seat_learns_27 rfl rfl ?_
    refine R_aload_n C 1 d_Seat_learns_28 rfl rfl ?_
    refine gf_Seat_cost C h_this fl_Seat_15 d_Seat_learns_29 ?_
    refine R_bind (fun v9 h10 => ?_)
    refine R_callSN C cf_BT_cut (C.2.2.2.2.2.2.2.1.2.2.2.2.2.2.2) sm_BT_cut (c_BT_cut (gk C) h10) (by decide) (by decide) rfl rfl (Nat.le_of_ble_eq_true rfl) d_Seat_learns_32 ?_
    refine R_isub C d_Seat_learns_35 ?_
    refine R_iload_n C 0 d_Seat_learns_36 rfl rfl ?_
    refine R_aload_n C 1 d_Seat_learns_37 rfl rfl ?_
    refine gf_Seat_desk C h_this fl_Seat_28 d_Seat_learns_38 ?_
    refine R_iload_n C 2 d_Seat_learns_41 rfl rfl ?_
    refine R_iald C (se_3 h_this) (sc_3 h_this q _ _) d_Seat_learns_42 (fun v11 => ?_)
    refine R_iconst C d_Seat_learns_43 (v := 3) (by decide +kernel) ?_
    refine R_idiv C d_Seat_learns_44 (by decide) ?_
    refine R_aload_n C 1 d_Seat_learns_45 rfl rfl ?_
    refine gf_Seat_v C h_this fl_Seat_25 d_Seat_learns_46 ?_
    refine R_iload_n C 2 d_Seat_learns_49 rfl rfl ?_
    refine R_iald C (se_2 h_this) (sc_2 h_this q _ _) d_Seat_learns_50 (fun v12 => ?_)
    refine R_bind (fun v13 h14 => ?_)
    refine Vlearning_PK_c C (kdh_Seat_kindOf h8) ml_Seat_142 h14 (by decide) (Nat.le_of_ble_eq_true rfl) d_Seat_learns_51 ?_
    refine R_max C ml_Seat_128 sm_Math_max in_Math co_Math_max (by decide) (Nat.le_of_ble_eq_true rfl) d_Seat_learns_54 ?_
    refine R_nm (fun x15 => ?_)
    exact R_iret C rfl d_Seat_learns_57
  · skip
    refine R_iconst C d_Seat_learns_8 (v := 0) (by decide +kernel) ?_
    exact R_iret C rfl d_Seat_learns_9
theorem c_Seat_learns {q : QT} (hg : GOk sdX q) {this : Nat} {a1 : Int32} {a2 : Int32} {μ : Mm} {ν : Ml} (h_this : this ∈ seats) {o : Int32} (ho : F_Seat_learns this a1 a2 μ = some o) : Ct sdX q y_Seat_learns prog_7_method_16_code 4 (some (FieldType.int)) 3 [.ref (q.2.2.1 this), .int a1, .int a2] μ ν ((φI μ ν) o).1 ((φI μ ν) o).2.1 ((φI μ ν) o).2.2 := Ct_of rfl hg (fun z C => w_Seat_learns C h_this) (Nat.le_of_ble_eq_true rfl) ho
def F_BT_plansFromNow (μ : Mm) : Option (Mm) := (F_Seat_becomes 60 40 μ).bind fun μ1 => lt_ (up2 μ1 60 3 0) fun μ3 => some μ3
theorem d_BT_plansFromNow_0 : decode prog_1_method_19_code 0 = .ok (.aload_n 0, 1) := by decide +kernel
theorem d_BT_plansFromNow_4 : decode prog_1_method_19_code 4 = .ok (.aload_n 0, 1) := by decide +kernel
theorem d_BT_plansFromNow_8 : decode prog_1_method_19_code 8 = .ok (.invokevirtual 192, 3) := by decide +kernel
theorem d_BT_plansFromNow_11 : decode prog_1_method_19_code 11 = .ok (.aload_n 0, 1) := by decide +kernel
theorem d_BT_plansFromNow_15 : decode prog_1_method_19_code 15 = .ok (.iconst 0, 1) := by decide +kernel
theorem d_BT_plansFromNow_19 : decode prog_1_method_19_code 19 = .ok (.return_, 1) := by decide +kernel
theorem d_BT_plansFromNow_12 : decode prog_1_method_19_code 12 = .ok (.getfield 56, 3) := by decide +kernel
theorem d_BT_plansFromNow_5 : decode prog_1_method_19_code 5 = .ok (.getfield 52, 3) := by decide +kernel
theorem d_BT_plansFromNow_1 : decode prog_1_method_19_code 1 = .ok (.getfield 56, 3) := by decide +kernel
theorem d_BT_plansFromNow_16 : decode prog_1_method_19_code 16 = .ok (.putfield 176, 3) := by decide +kernel
set_option maxRecDepth 10000 in
set_option maxHeartbeats 4000000 in
theorem w_BT_plansFromNow {q : QT} {z : ZT} {μ : Mm} {ν : Ml} (C : Ctx sdX q z prog_1_method_19_code "BesideTom" 1 3 none) : R sdX q z 1 (φVm ν) (F_BT_plansFromNow μ) μ ν 0 [(0, .ref (q.2.2.1 0))] [] := by
  unfold F_BT_plansFromNow
  refine R_aload_n C 0 d_BT_plansFromNow_0 rfl rfl ?_
  refine gf_BT_asked C fl_BT_56 d_BT_plansFromNow_1 ?_
  refine R_aload_n C 0 d_BT_plansFromNow_4 rfl rfl ?_
  refine gf_BT_now C fl_BT_52 d_BT_plansFromNow_5 ?_
  refine R_bind (fun μ1 h2 => ?_)
  refine R_callV C (se_0 s60) (sc_0 s60 q _ _) rfl cf_Seat_becomes rfl ml_BT_192 im_Seat_becomes sl_Seat_Seat_becomes_Seat_becomes (c_Seat_becomes (gk C) s60 s40 h2) (by decide) (by decide) rfl rfl (Nat.le_of_ble_eq_true rfl) d_BT_plansFromNow_8 ?_
  refine R_aload_n C 0 d_BT_plansFromNow_11 rfl rfl ?_
  refine gf_BT_asked C fl_BT_56 d_BT_plansFromNow_12 ?_
  refine R_iconst C d_BT_plansFromNow_15 (v := 0) (by decide +kernel) ?_
  refine pf_Seat_wear C s60 fl_BT_176 d_BT_plansFromNow_16 (fun μ3 => ?_)
  exact R_vret C rfl d_BT_plansFromNow_19
theorem c_BT_plansFromNow {q : QT} (hg : GOk sdX q) {μ : Mm} {ν : Ml} {o : Mm} (ho : F_BT_plansFromNow μ = some o) : Ct sdX q y_BT_plansFromNow prog_1_method_19_code 1 none 3 [.ref (q.2.2.1 0)] μ ν ((φVm ν) o).1 ((φVm ν) o).2.1 ((φVm ν) o).2.2 := Ct_of rfl hg (fun z C => w_BT_plansFromNow C) (Nat.le_of_ble_eq_true rfl) ho
def L_Rooms_single_4 (rec : Int32 → Mm → Option (Int32 × Mm)) (k : Int32 → Int32 → Mm → Option (Int32 × Mm)) : Nat → Int32 → Int32 → Mm → Option (Int32 × Mm)
  | 0, _, _, _ => none
  | n + 1, s1, s2, μ3 => (if (μ3 1 5) = 33 then (if 4 ≤ s1 then k s1 s2 μ3 else jn (α := Int32) (fun K7 => (if s2 = 0 then K7 1 else K7 0)) (fun (j4 : Int32) => (F_Rooms_steps μ3).bind fun μ5 => L_Rooms_single_4 rec k n (s1 + 1) j4 μ5)) else k s1 s2 μ3)
def F_Rooms_single (rec : Int32 → Mm → Option (Int32 × Mm))  (a1 : Int32) (μ : Mm) : Option (Int32 × Mm) := L_Rooms_single_4 rec (fun (x8 : Int32) (x9 : Int32) (μ10 : Mm) => jn (α := Unit) (fun K21 => (if (μ10 1 5) = 40 then (if 4 ≤ x8 then K21 () else (F_Rooms_steps μ10).bind fun μ11 => (rec (x8 + 1) μ11).bind fun p_ => match p_ with | (v13, μ14) => (F_Rooms_expects 41 μ14).bind fun μ16 => (if v13 = x9 then some (0, μ16) else some (1, μ16))) else K21 ())) (fun (_ : Unit) => (F_Rooms_test μ10).bind fun p_ => match p_ with | (v18, μ19) => (if v18 = x9 then some (0, μ19) else some (1, μ19)))) fu a1 0 μ
theorem d_Rooms_single_0 : decode prog_5_method_17_code 0 = .ok (.iload_n 1, 1) := by decide +kernel
theorem d_Rooms_single_1 : decode prog_5_method_17_code 1 = .ok (.istore_n 2, 1) := by decide +kernel
theorem d_Rooms_single_2 : decode prog_5_method_17_code 2 = .ok (.iconst 0, 1) := by decide +kernel
theorem d_Rooms_single_3 : decode prog_5_method_17_code 3 = .ok (.istore_n 3, 1) := by decide +kernel
theorem d_Rooms_single_4 : decode prog_5_method_17_code 4 = .ok (.aload_n 0, 1) := by decide +kernel
theorem d_Rooms_single_8 : decode prog_5_method_17_code 8 = .ok (.bipush 33, 2) := by decide +kernel
theorem d_Rooms_single_13 : decode prog_5_method_17_code 13 = .ok (.iload_n 2, 1) := by decide +kernel
theorem d_Rooms_single_14 : decode prog_5_method_17_code 14 = .ok (.iconst 4, 1) := by decide +kernel
theorem d_Rooms_single_18 : decode prog_5_method_17_code 18 = .ok (.iload_n 3, 1) := by decide +kernel
theorem d_Rooms_single_26 : decode prog_5_method_17_code 26 = .ok (.iconst 0, 1) := by decide +kernel
theorem d_Rooms_single_22 : decode prog_5_method_17_code 22 = .ok (.iconst 1, 1) := by decide +kernel
theorem d_Rooms_single_23 : decode prog_5_method_17_code 23 = .ok (.goto 4, 3) := by decide +kernel
theorem d_Rooms_single_19 : decode prog_5_method_17_code 19 = .ok (.ifCond .ne 7, 3) := by decide +kernel
theorem d_Rooms_single_27 : decode prog_5_method_17_code 27 = .ok (.istore_n 3, 1) := by decide +kernel
theorem d_Rooms_single_28 : decode prog_5_method_17_code 28 = .ok (.aload_n 0, 1) := by decide +kernel
theorem d_Rooms_single_29 : decode prog_5_method_17_code 29 = .ok (.invokevirtual 49, 3) := by decide +kernel
theorem d_Rooms_single_32 : decode prog_5_method_17_code 32 = .ok (.iinc 2 1, 3) := by decide +kernel
theorem d_Rooms_single_35 : decode prog_5_method_17_code 35 = .ok (.goto (-31), 3) := by decide +kernel
theorem d_Rooms_single_15 : decode prog_5_method_17_code 15 = .ok (.if_icmp .ge 23, 3) := by decide +kernel
theorem d_Rooms_single_10 : decode prog_5_method_17_code 10 = .ok (.if_icmp .ne 28, 3) := by decide +kernel
theorem d_Rooms_single_5 : decode prog_5_method_17_code 5 = .ok (.getfield 46, 3) := by decide +kernel
set_option maxRecDepth 10000 in
set_option maxHeartbeats 4000000 in
theorem W_Rooms_single_4 {d : Nat} {q : QT} {z : ZT} {ν : Ml} {rec : Int32 → Mm → Option (Int32 × Mm)} {k : Int32 → Int32 → Mm → Option (Int32 × Mm)} (C : Ctx sdX q z prog_5_method_17_code "BesideTom$Rooms" 5 (3 + 2 * d + 1) (some (FieldType.boolean))) (hrec : ∀ (a1 : Int32) (μ : Mm) (ν : Ml) (o : Int32 × Mm), rec a1 μ = some o → Ct sdX q y_Rooms_either prog_5_method_16_code 7 (some (FieldType.boolean)) (3 + 2 * d) [.ref (q.2.2.1 1), .int a1] μ ν ((φIm ν) o).1 ((φIm ν) o).2.1 ((φIm ν) o).2.2) (hk : ∀ (e0_ : Int32) (e1_ : Int32) (me_ : Mm), R sdX q z 5 (φIm ν) (k e0_ e1_ me_) me_ ν 38 [(0, .ref (q.2.2.1 1)), (2, .int e0_), (3, .int e1_)] []) : ∀ (n : Nat) (s1 : Int32) (s2 : Int32) (μ3 : Mm), R sdX q z 5 (φIm ν) (L_Rooms_single_4 rec k n s1 s2 μ3) μ3 ν 4 [(2, .int s1), (3, .int s2), (0, .ref (q.2.2.1 1))] [] := by
  intro n
  induction n with
  | zero =>
    intros
    exact R_none
  | succ n ih =>
    intro s1 s2 μ3
    rw [L_Rooms_single_4]
    refine R_aload_n C 2 d_Rooms_single_4 rfl rfl ?_
    refine gf_Rooms_sign C fl_Rooms_46 d_Rooms_single_5 ?_
    refine R_bipush C d_Rooms_single_8 (v := 33) (by decide +kernel) ?_
    refine R_icmp_ne C d_Rooms_single_10 (tgt := 38) (by decide) ?_ ?_
    · skip
      exact R_sub [2, 0, 1] rfl (hk s1 s2 μ3)
    · skip
      refine R_iload_n C 0 d_Rooms_single_13 rfl rfl ?_
      refine R_iconst C d_Rooms_single_14 (v := 4) (by decide +kernel) ?_
      refine R_icmp_ge C d_Rooms_single_15 (tgt := 38) (by decide) ?_ ?_
      · skip
        exact R_sub [2, 0, 1] rfl (hk s1 s2 μ3)
      · skip
        refine R_iload_n C 1 d_Rooms_single_18 rfl rfl ?_
        refine R_jn (fun K7 => ∀ (j4 : Int32), R sdX q z 5 (φIm ν) (K7 j4) μ3 ν 27 [(0, .ref (q.2.2.1 1)), (2, .int s1)] [.int j4]) ?_ (fun K7 hK7 => ?_)
        · intro j4
          refine R_istore_n C (lv' := [(3, .int j4), (0, .ref (q.2.2.1 1)), (2, .int s1)]) d_Rooms_single_27 rfl (by decide) rfl ?_
          refine R_aload_n C 1 d_Rooms_single_28 rfl rfl ?_
          refine R_bind (fun μ5 h6 => ?_)
          refine R_callV C xm_1 (xc_1 q _ _) rfl cf_Rooms_steps rfl ml_Rooms_49 im_Rooms_steps sl_Rooms_Rooms_steps_Rooms_steps (c_Rooms_steps (gk C) h6) (by omega) (by decide) rfl rfl (Nat.le_of_ble_eq_true rfl) d_Rooms_single_29 ?_
          refine R_iinc C 2 d_Rooms_single_32 rfl (iinc_v _ (v := 1) (by decide +kernel)) (lv' := [(2, .int (s1 + 1)), (3, .int j4), (0, .ref (q.2.2.1 1))]) (by decide) rfl ?_
          refine R_goto C d_Rooms_single_35 (tgt := 4) (by decide) ?_
          exact R_sub [0, 1, 2] rfl (ih (s1 + 1) j4 μ5)
        · skip
          refine R_if_ne C d_Rooms_single_19 (tgt := 26) (by decide) ?_ ?_
          · skip
            refine R_iconst C d_Rooms_single_26 (v := 0) (by decide +kernel) ?_
            exact R_sub [2, 0] rfl (hK7 0)
          · skip
            refine R_iconst C d_Rooms_single_22 (v := 1) (by decide +kernel) ?_
            refine R_goto C d_Rooms_single_23 (tgt := 27) (by decide) ?_
            exact R_sub [2, 0] rfl (hK7 1)
theorem d_Rooms_single_38 : decode prog_5_method_17_code 38 = .ok (.aload_n 0, 1) := by decide +kernel
theorem d_Rooms_single_42 : decode prog_5_method_17_code 42 = .ok (.bipush 40, 2) := by decide +kernel
theorem d_Rooms_single_47 : decode prog_5_method_17_code 47 = .ok (.iload_n 2, 1) := by decide +kernel
theorem d_Rooms_single_48 : decode prog_5_method_17_code 48 = .ok (.iconst 4, 1) := by decide +kernel
theorem d_Rooms_single_52 : decode prog_5_method_17_code 52 = .ok (.aload_n 0, 1) := by decide +kernel
theorem d_Rooms_single_53 : decode prog_5_method_17_code 53 = .ok (.invokevirtual 49, 3) := by decide +kernel
theorem d_Rooms_single_56 : decode prog_5_method_17_code 56 = .ok (.aload_n 0, 1) := by decide +kernel
theorem d_Rooms_single_57 : decode prog_5_method_17_code 57 = .ok (.iload_n 2, 1) := by decide +kernel
theorem d_Rooms_single_58 : decode prog_5_method_17_code 58 = .ok (.iconst 1, 1) := by decide +kernel
theorem d_Rooms_single_59 : decode prog_5_method_17_code 59 = .ok (.iadd, 1) := by decide +kernel
theorem d_Rooms_single_60 : decode prog_5_method_17_code 60 = .ok (.invokevirtual 103, 3) := by decide +kernel
theorem d_Rooms_single_63 : decode prog_5_method_17_code 63 = .ok (.istore 4, 2) := by decide +kernel
theorem d_Rooms_single_65 : decode prog_5_method_17_code 65 = .ok (.aload_n 0, 1) := by decide +kernel
theorem d_Rooms_single_66 : decode prog_5_method_17_code 66 = .ok (.bipush 41, 2) := by decide +kernel
theorem d_Rooms_single_68 : decode prog_5_method_17_code 68 = .ok (.invokevirtual 96, 3) := by decide +kernel
theorem d_Rooms_single_71 : decode prog_5_method_17_code 71 = .ok (.iload 4, 2) := by decide +kernel
theorem d_Rooms_single_73 : decode prog_5_method_17_code 73 = .ok (.iload_n 3, 1) := by decide +kernel
theorem d_Rooms_single_81 : decode prog_5_method_17_code 81 = .ok (.iconst 0, 1) := by decide +kernel
theorem d_Rooms_single_82 : decode prog_5_method_17_code 82 = .ok (.ireturn, 1) := by decide +kernel
theorem d_Rooms_single_77 : decode prog_5_method_17_code 77 = .ok (.iconst 1, 1) := by decide +kernel
theorem d_Rooms_single_78 : decode prog_5_method_17_code 78 = .ok (.goto 4, 3) := by decide +kernel
theorem d_Rooms_single_74 : decode prog_5_method_17_code 74 = .ok (.if_icmp .eq 7, 3) := by decide +kernel
theorem d_Rooms_single_49 : decode prog_5_method_17_code 49 = .ok (.if_icmp .ge 34, 3) := by decide +kernel
theorem d_Rooms_single_44 : decode prog_5_method_17_code 44 = .ok (.if_icmp .ne 39, 3) := by decide +kernel
theorem d_Rooms_single_83 : decode prog_5_method_17_code 83 = .ok (.aload_n 0, 1) := by decide +kernel
theorem d_Rooms_single_84 : decode prog_5_method_17_code 84 = .ok (.invokevirtual 122, 3) := by decide +kernel
theorem d_Rooms_single_87 : decode prog_5_method_17_code 87 = .ok (.iload_n 3, 1) := by decide +kernel
theorem d_Rooms_single_95 : decode prog_5_method_17_code 95 = .ok (.iconst 0, 1) := by decide +kernel
theorem d_Rooms_single_96 : decode prog_5_method_17_code 96 = .ok (.ireturn, 1) := by decide +kernel
theorem d_Rooms_single_91 : decode prog_5_method_17_code 91 = .ok (.iconst 1, 1) := by decide +kernel
theorem d_Rooms_single_92 : decode prog_5_method_17_code 92 = .ok (.goto 4, 3) := by decide +kernel
theorem d_Rooms_single_88 : decode prog_5_method_17_code 88 = .ok (.if_icmp .eq 7, 3) := by decide +kernel
theorem d_Rooms_single_39 : decode prog_5_method_17_code 39 = .ok (.getfield 46, 3) := by decide +kernel
set_option maxRecDepth 10000 in
set_option maxHeartbeats 4000000 in
theorem w_Rooms_single {d : Nat} {q : QT} {z : ZT} {rec : Int32 → Mm → Option (Int32 × Mm)} {a1 : Int32} {μ : Mm} {ν : Ml} (C : Ctx sdX q z prog_5_method_17_code "BesideTom$Rooms" 5 (3 + 2 * d + 1) (some (FieldType.boolean))) (hrec : ∀ (a1 : Int32) (μ : Mm) (ν : Ml) (o : Int32 × Mm), rec a1 μ = some o → Ct sdX q y_Rooms_either prog_5_method_16_code 7 (some (FieldType.boolean)) (3 + 2 * d) [.ref (q.2.2.1 1), .int a1] μ ν ((φIm ν) o).1 ((φIm ν) o).2.1 ((φIm ν) o).2.2) : R sdX q z 5 (φIm ν) (F_Rooms_single rec a1 μ) μ ν 0 [(0, .ref (q.2.2.1 1)), (1, .int a1)] [] := by
  unfold F_Rooms_single
  refine R_iload_n C 1 d_Rooms_single_0 rfl rfl ?_
  refine R_istore_n C (lv' := [(2, .int a1), (0, .ref (q.2.2.1 1)), (1, .int a1)]) d_Rooms_single_1 rfl (by decide) rfl ?_
  refine R_iconst C d_Rooms_single_2 (v := 0) (by decide +kernel) ?_
  refine R_istore_n C (lv' := [(3, .int 0), (2, .int a1), (0, .ref (q.2.2.1 1)), (1, .int a1)]) d_Rooms_single_3 rfl (by decide) rfl ?_
  refine R_sub [1, 0, 2] rfl ?_
  refine W_Rooms_single_4 C hrec ?_ fu _ _ _
  intro x8 x9 μ10
  refine R_aload_n C 0 d_Rooms_single_38 rfl rfl ?_
  refine gf_Rooms_sign C fl_Rooms_46 d_Rooms_single_39 ?_
  refine R_bipush C d_Rooms_single_42 (v := 40) (by decide +kernel) ?_
  refine R_jn (fun K21 => R sdX q z 5 (φIm ν) (K21 ()) μ10 ν 83 [(0, .ref (q.2.2.1 1)), (3, .int x9)] []) ?_ (fun K21 hK21 => ?_)
  · skip
    refine R_aload_n C 0 d_Rooms_single_83 rfl rfl ?_
    refine R_bind (fun r_ h20 => ?_)
    obtain ⟨v18, μ19⟩ := r_
    refine R_callV C xm_1 (xc_1 q _ _) rfl cf_Rooms_test rfl ml_Rooms_122 im_Rooms_test sl_Rooms_Rooms_test_Rooms_test (c_Rooms_test (gk C) h20) (by omega) (by decide) rfl rfl (Nat.le_of_ble_eq_true rfl) d_Rooms_single_84 ?_
    refine R_iload_n C 1 d_Rooms_single_87 rfl rfl ?_
    refine R_icmp_eq C d_Rooms_single_88 (tgt := 95) (by decide) ?_ ?_
    · skip
      refine R_iconst C d_Rooms_single_95 (v := 0) (by decide +kernel) ?_
      exact R_zret C (by decide) rfl d_Rooms_single_96
    · skip
      refine R_iconst C d_Rooms_single_91 (v := 1) (by decide +kernel) ?_
      refine R_goto C d_Rooms_single_92 (tgt := 96) (by decide) ?_
      exact R_zret C (by decide) rfl d_Rooms_single_96
  · skip
    refine R_icmp_ne C d_Rooms_single_44 (tgt := 83) (by decide) ?_ ?_
    · skip
      exact R_sub [0, 2] rfl (hK21)
    · skip
      refine R_iload_n C 1 d_Rooms_single_47 rfl rfl ?_
      refine R_iconst C d_Rooms_single_48 (v := 4) (by decide +kernel) ?_
      refine R_icmp_ge C d_Rooms_single_49 (tgt := 83) (by decide) ?_ ?_
      · skip
        exact R_sub [0, 2] rfl (hK21)
      · skip
        refine R_aload_n C 0 d_Rooms_single_52 rfl rfl ?_
        refine R_bind (fun μ11 h12 => ?_)
        refine R_callV C xm_1 (xc_1 q _ _) rfl cf_Rooms_steps rfl ml_Rooms_49 im_Rooms_steps sl_Rooms_Rooms_steps_Rooms_steps (c_Rooms_steps (gk C) h12) (by omega) (by decide) rfl rfl (Nat.le_of_ble_eq_true rfl) d_Rooms_single_53 ?_
        refine R_aload_n C 0 d_Rooms_single_56 rfl rfl ?_
        refine R_iload_n C 1 d_Rooms_single_57 rfl rfl ?_
        refine R_iconst C d_Rooms_single_58 (v := 1) (by decide +kernel) ?_
        refine R_iadd C d_Rooms_single_59 ?_
        refine R_bind (fun r_ h15 => ?_)
        obtain ⟨v13, μ14⟩ := r_
        refine R_callV C xm_1 (xc_1 q _ _) rfl cf_Rooms_either rfl ml_Rooms_103 im_Rooms_either sl_Rooms_Rooms_either_Rooms_either (hrec _ _ _ _ h15) (by omega) (by decide) rfl rfl (Nat.le_of_ble_eq_true rfl) d_Rooms_single_60 ?_
        refine R_istore C (lv' := [(4, .int v13), (0, .ref (q.2.2.1 1)), (2, .int x8), (3, .int x9)]) d_Rooms_single_63 (by decide) rfl ?_
        refine R_aload_n C 1 d_Rooms_single_65 rfl rfl ?_
        refine R_bipush C d_Rooms_single_66 (v := 41) (by decide +kernel) ?_
        refine R_bind (fun μ16 h17 => ?_)
        refine R_callV C xm_1 (xc_1 q _ _) rfl cf_Rooms_expects rfl ml_Rooms_96 im_Rooms_expects sl_Rooms_Rooms_expects_Rooms_expects (c_Rooms_expects (gk C) h17) (by omega) (by decide) rfl rfl (Nat.le_of_ble_eq_true rfl) d_Rooms_single_68 ?_
        refine R_iload C 0 d_Rooms_single_71 rfl ?_
        refine R_iload_n C 3 d_Rooms_single_73 rfl rfl ?_
        refine R_icmp_eq C d_Rooms_single_74 (tgt := 81) (by decide) ?_ ?_
        · skip
          refine R_iconst C d_Rooms_single_81 (v := 0) (by decide +kernel) ?_
          exact R_zret C (by decide) rfl d_Rooms_single_82
        · skip
          refine R_iconst C d_Rooms_single_77 (v := 1) (by decide +kernel) ?_
          refine R_goto C d_Rooms_single_78 (tgt := 82) (by decide) ?_
          exact R_zret C (by decide) rfl d_Rooms_single_82
theorem c_Rooms_single {d : Nat} {q : QT} (hg : GOk sdX q) {rec : Int32 → Mm → Option (Int32 × Mm)} (hrec : ∀ (a1 : Int32) (μ : Mm) (ν : Ml) (o : Int32 × Mm), rec a1 μ = some o → Ct sdX q y_Rooms_either prog_5_method_16_code 7 (some (FieldType.boolean)) (3 + 2 * d) [.ref (q.2.2.1 1), .int a1] μ ν ((φIm ν) o).1 ((φIm ν) o).2.1 ((φIm ν) o).2.2) {a1 : Int32} {μ : Mm} {ν : Ml} {o : Int32 × Mm} (ho : F_Rooms_single rec a1 μ = some o) : Ct sdX q y_Rooms_single prog_5_method_17_code 5 (some (FieldType.boolean)) (3 + 2 * d + 1) [.ref (q.2.2.1 1), .int a1] μ ν ((φIm ν) o).1 ((φIm ν) o).2.1 ((φIm ν) o).2.2 := Ct_of rfl hg (fun z C => w_Rooms_single C hrec) (Nat.le_of_ble_eq_true rfl) ho
def F_BT_taken (a1 : Int32) (a2 : Int32) (μ : Mm) : Option (Int32) := (F_BT_within a2 0 6).bind fun v1 => (if v1 = 0 then some (-2) else (F_Seat_has 40 a1 μ).bind fun v3 => (if v3 = 0 then some (-11) else (F_Seat_kindOf 40 a1 μ).bind fun v5 => (V_isUnder v5 a2).bind fun v7 => (if v7 = 0 then some (-12) else (rdI (μ 41) 6 a1).bind fun v9 => some v9)))
theorem d_BT_taken_0 : decode prog_1_method_40_code 0 = .ok (.iload_n 2, 1) := by decide +kernel
theorem d_BT_taken_1 : decode prog_1_method_40_code 1 = .ok (.iconst 0, 1) := by decide +kernel
theorem d_BT_taken_2 : decode prog_1_method_40_code 2 = .ok (.bipush 6, 2) := by decide +kernel
theorem d_BT_taken_4 : decode prog_1_method_40_code 4 = .ok (.invokestatic 76, 3) := by decide +kernel
theorem d_BT_taken_13 : decode prog_1_method_40_code 13 = .ok (.aload_n 0, 1) := by decide +kernel
theorem d_BT_taken_17 : decode prog_1_method_40_code 17 = .ok (.iload_n 1, 1) := by decide +kernel
theorem d_BT_taken_18 : decode prog_1_method_40_code 18 = .ok (.invokevirtual 92, 3) := by decide +kernel
theorem d_BT_taken_27 : decode prog_1_method_40_code 27 = .ok (.aload_n 0, 1) := by decide +kernel
theorem d_BT_taken_31 : decode prog_1_method_40_code 31 = .ok (.iload_n 1, 1) := by decide +kernel
theorem d_BT_taken_32 : decode prog_1_method_40_code 32 = .ok (.invokevirtual 291, 3) := by decide +kernel
theorem d_BT_taken_35 : decode prog_1_method_40_code 35 = .ok (.iload_n 2, 1) := by decide +kernel
theorem d_BT_taken_36 : decode prog_1_method_40_code 36 = .ok (.invokevirtual 311, 3) := by decide +kernel
theorem d_BT_taken_54 : decode prog_1_method_40_code 54 = .ok (.bipush (-12), 2) := by decide +kernel
theorem d_BT_taken_56 : decode prog_1_method_40_code 56 = .ok (.ireturn, 1) := by decide +kernel
theorem d_BT_taken_42 : decode prog_1_method_40_code 42 = .ok (.aload_n 0, 1) := by decide +kernel
theorem d_BT_taken_49 : decode prog_1_method_40_code 49 = .ok (.iload_n 1, 1) := by decide +kernel
theorem d_BT_taken_51 : decode prog_1_method_40_code 51 = .ok (.goto 5, 3) := by decide +kernel
theorem d_BT_taken_46 : decode prog_1_method_40_code 46 = .ok (.getfield 99, 3) := by decide +kernel
theorem d_BT_taken_43 : decode prog_1_method_40_code 43 = .ok (.getfield 52, 3) := by decide +kernel
theorem d_BT_taken_39 : decode prog_1_method_40_code 39 = .ok (.ifCond .eq 15, 3) := by decide +kernel
theorem d_BT_taken_28 : decode prog_1_method_40_code 28 = .ok (.getfield 52, 3) := by decide +kernel
theorem d_BT_taken_24 : decode prog_1_method_40_code 24 = .ok (.bipush (-11), 2) := by decide +kernel
theorem d_BT_taken_26 : decode prog_1_method_40_code 26 = .ok (.ireturn, 1) := by decide +kernel
theorem d_BT_taken_21 : decode prog_1_method_40_code 21 = .ok (.ifCond .ne 6, 3) := by decide +kernel
theorem d_BT_taken_14 : decode prog_1_method_40_code 14 = .ok (.getfield 52, 3) := by decide +kernel
theorem d_BT_taken_10 : decode prog_1_method_40_code 10 = .ok (.bipush (-2), 2) := by decide +kernel
theorem d_BT_taken_12 : decode prog_1_method_40_code 12 = .ok (.ireturn, 1) := by decide +kernel
theorem d_BT_taken_7 : decode prog_1_method_40_code 7 = .ok (.ifCond .ne 6, 3) := by decide +kernel
theorem d_BT_taken_50 : decode prog_1_method_40_code 50 = .ok (.iaload, 1) := by decide +kernel
set_option maxRecDepth 10000 in
set_option maxHeartbeats 4000000 in
theorem w_BT_taken {q : QT} {z : ZT} {a1 : Int32} {a2 : Int32} {μ : Mm} {ν : Ml} (C : Ctx sdX q z prog_1_method_40_code "BesideTom" 3 3 (some (FieldType.int))) : R sdX q z 3 (φI μ ν) (F_BT_taken a1 a2 μ) μ ν 0 [(0, .ref (q.2.2.1 0)), (1, .int a1), (2, .int a2)] [] := by
  unfold F_BT_taken
  refine R_iload_n C 2 d_BT_taken_0 rfl rfl ?_
  refine R_iconst C d_BT_taken_1 (v := 0) (by decide +kernel) ?_
  refine R_bipush C d_BT_taken_2 (v := 6) (by decide +kernel) ?_
  refine R_bind (fun v1 h2 => ?_)
  refine R_callS C cf_BT_within ml_BT_76 sm_BT_within (c_BT_within (gk C) h2) (by decide) (by decide) rfl rfl (Nat.le_of_ble_eq_true rfl) d_BT_taken_4 ?_
  refine R_if_ne C d_BT_taken_7 (tgt := 13) (by decide) ?_ ?_
  · skip
    refine R_aload_n C 0 d_BT_taken_13 rfl rfl ?_
    refine gf_BT_now C fl_BT_52 d_BT_taken_14 ?_
    refine R_iload_n C 1 d_BT_taken_17 rfl rfl ?_
    refine R_bind (fun v3 h4 => ?_)
    refine R_callV C (se_0 s40) (sc_0 s40 q _ _) rfl cf_Seat_has rfl ml_BT_92 im_Seat_has sl_Seat_Seat_has_Seat_has (c_Seat_has (gk C) s40 h4) (by decide) (by decide) rfl rfl (Nat.le_of_ble_eq_true rfl) d_BT_taken_18 ?_
    refine R_if_ne C d_BT_taken_21 (tgt := 27) (by decide) ?_ ?_
    · skip
      refine R_aload_n C 0 d_BT_taken_27 rfl rfl ?_
      refine gf_BT_now C fl_BT_52 d_BT_taken_28 ?_
      refine R_iload_n C 1 d_BT_taken_31 rfl rfl ?_
      refine R_bind (fun v5 h6 => ?_)
      refine R_callV C (se_0 s40) (sc_0 s40 q _ _) rfl cf_Seat_kindOf rfl ml_BT_291 im_Seat_kindOf sl_Seat_Seat_kindOf_Seat_kindOf (c_Seat_kindOf (gk C) s40 h6) (by decide) (by decide) rfl rfl (Nat.le_of_ble_eq_true rfl) d_BT_taken_32 ?_
      refine R_iload_n C 2 d_BT_taken_35 rfl rfl ?_
      refine R_bind (fun v7 h8 => ?_)
      refine VisUnder_PK_c C (kdh_Seat_kindOf h6) ml_BT_311 h8 (by decide) (Nat.le_of_ble_eq_true rfl) d_BT_taken_36 ?_
      refine R_if_eq C d_BT_taken_39 (tgt := 54) (by decide) ?_ ?_
      · skip
        refine R_bipush C d_BT_taken_54 (v := (-12)) (by decide +kernel) ?_
        exact R_iret C rfl d_BT_taken_56
      · skip
        refine R_aload_n C 0 d_BT_taken_42 rfl rfl ?_
        refine gf_BT_now C fl_BT_52 d_BT_taken_43 ?_
        refine gf_Seat_kind C s40 fl_BT_99 d_BT_taken_46 ?_
        refine R_iload_n C 1 d_BT_taken_49 rfl rfl ?_
        refine R_iald C (se_1 s40) (sc_1 s40 q _ _) d_BT_taken_50 (fun v9 => ?_)
        refine R_goto C d_BT_taken_51 (tgt := 56) (by decide) ?_
        exact R_iret C rfl d_BT_taken_56
    · skip
      refine R_bipush C d_BT_taken_24 (v := (-11)) (by decide +kernel) ?_
      exact R_iret C rfl d_BT_taken_26
  · skip
    refine R_bipush C d_BT_taken_10 (v := (-2)) (by decide +kernel) ?_
    exact R_iret C rfl d_BT_taken_12
theorem c_BT_taken {q : QT} (hg : GOk sdX q) {a1 : Int32} {a2 : Int32} {μ : Mm} {ν : Ml} {o : Int32} (ho : F_BT_taken a1 a2 μ = some o) : Ct sdX q y_BT_taken prog_1_method_40_code 3 (some (FieldType.int)) 3 [.ref (q.2.2.1 0), .int a1, .int a2] μ ν ((φI μ ν) o).1 ((φI μ ν) o).2.1 ((φI μ ν) o).2.2 := Ct_of rfl hg (fun z C => w_BT_taken C) (Nat.le_of_ble_eq_true rfl) ho
def F_BT_undo (μ : Mm) : Option (Int32 × Mm) := (if (μ 0 3) = 0 then some ((-3), μ) else (F_Seat_becomes 40 80 μ).bind fun μ1 => some ((μ1 40 1), μ1))
theorem d_BT_undo_0 : decode prog_1_method_37_code 0 = .ok (.aload_n 0, 1) := by decide +kernel
theorem d_BT_undo_10 : decode prog_1_method_37_code 10 = .ok (.aload_n 0, 1) := by decide +kernel
theorem d_BT_undo_14 : decode prog_1_method_37_code 14 = .ok (.aload_n 0, 1) := by decide +kernel
theorem d_BT_undo_18 : decode prog_1_method_37_code 18 = .ok (.invokevirtual 192, 3) := by decide +kernel
theorem d_BT_undo_21 : decode prog_1_method_37_code 21 = .ok (.aload_n 0, 1) := by decide +kernel
theorem d_BT_undo_28 : decode prog_1_method_37_code 28 = .ok (.ireturn, 1) := by decide +kernel
theorem d_BT_undo_25 : decode prog_1_method_37_code 25 = .ok (.getfield 80, 3) := by decide +kernel
theorem d_BT_undo_22 : decode prog_1_method_37_code 22 = .ok (.getfield 52, 3) := by decide +kernel
theorem d_BT_undo_15 : decode prog_1_method_37_code 15 = .ok (.getfield 59, 3) := by decide +kernel
theorem d_BT_undo_11 : decode prog_1_method_37_code 11 = .ok (.getfield 52, 3) := by decide +kernel
theorem d_BT_undo_7 : decode prog_1_method_37_code 7 = .ok (.bipush (-3), 2) := by decide +kernel
theorem d_BT_undo_9 : decode prog_1_method_37_code 9 = .ok (.ireturn, 1) := by decide +kernel
theorem d_BT_undo_4 : decode prog_1_method_37_code 4 = .ok (.ifCond .ne 6, 3) := by decide +kernel
theorem d_BT_undo_1 : decode prog_1_method_37_code 1 = .ok (.getfield 279, 3) := by decide +kernel
set_option maxRecDepth 10000 in
set_option maxHeartbeats 4000000 in
theorem w_BT_undo {q : QT} {z : ZT} {μ : Mm} {ν : Ml} (C : Ctx sdX q z prog_1_method_37_code "BesideTom" 1 3 (some (FieldType.int))) : R sdX q z 1 (φIm ν) (F_BT_undo μ) μ ν 0 [(0, .ref (q.2.2.1 0))] [] := by
  unfold F_BT_undo
  refine R_aload_n C 0 d_BT_undo_0 rfl rfl ?_
  refine gf_BT_imaged C fl_BT_279 d_BT_undo_1 ?_
  refine R_if_ne C d_BT_undo_4 (tgt := 10) (by decide) ?_ ?_
  · skip
    refine R_aload_n C 0 d_BT_undo_10 rfl rfl ?_
    refine gf_BT_now C fl_BT_52 d_BT_undo_11 ?_
    refine R_aload_n C 0 d_BT_undo_14 rfl rfl ?_
    refine gf_BT_kept C fl_BT_59 d_BT_undo_15 ?_
    refine R_bind (fun μ1 h2 => ?_)
    refine R_callV C (se_0 s40) (sc_0 s40 q _ _) rfl cf_Seat_becomes rfl ml_BT_192 im_Seat_becomes sl_Seat_Seat_becomes_Seat_becomes (c_Seat_becomes (gk C) s40 s80 h2) (by decide) (by decide) rfl rfl (Nat.le_of_ble_eq_true rfl) d_BT_undo_18 ?_
    refine R_aload_n C 0 d_BT_undo_21 rfl rfl ?_
    refine gf_BT_now C fl_BT_52 d_BT_undo_22 ?_
    refine gf_Seat_many C s40 fl_BT_80 d_BT_undo_25 ?_
    exact R_iret C rfl d_BT_undo_28
  · skip
    refine R_bipush C d_BT_undo_7 (v := (-3)) (by decide +kernel) ?_
    exact R_iret C rfl d_BT_undo_9
theorem c_BT_undo {q : QT} (hg : GOk sdX q) {μ : Mm} {ν : Ml} {o : Int32 × Mm} (ho : F_BT_undo μ = some o) : Ct sdX q y_BT_undo prog_1_method_37_code 1 (some (FieldType.int)) 3 [.ref (q.2.2.1 0)] μ ν ((φIm ν) o).1 ((φIm ν) o).2.1 ((φIm ν) o).2.2 := Ct_of rfl hg (fun z C => w_BT_undo C) (Nat.le_of_ble_eq_true rfl) ho
def F_Seat_voice (this : Nat) (a1 : Int32) (a2 : Int32) (μ : Mm) : Option (Int32) := (F_Seat_neighbours this a1 μ).bind fun v1 => (F_Int_bitCount v1).bind fun v3 => (rdI (μ (this + 5)) 24 ((a1 * 4) + (((μ this 2) + a2) - ((μ this 2) + a2) / 4 * 4))).bind fun v5 => (F_Seat_kindOf this a1 μ).bind fun v6 => (rdI (μ (this + 3)) 6 a1).bind fun v8 => (rdI (μ (this + 6)) 36 ((a1 * 6) + v8)).bind fun v9 => (rdI (μ (this + 2)) 6 a1).bind fun v10 => (V_voice v6 v9 v3 v10 v5).bind fun v11 => some v11
theorem d_Seat_voice_0 : decode prog_7_method_13_code 0 = .ok (.aload_n 0, 1) := by decide +kernel
theorem d_Seat_voice_1 : decode prog_7_method_13_code 1 = .ok (.iload_n 1, 1) := by decide +kernel
theorem d_Seat_voice_2 : decode prog_7_method_13_code 2 = .ok (.invokevirtual 107, 3) := by decide +kernel
theorem d_Seat_voice_5 : decode prog_7_method_13_code 5 = .ok (.invokestatic 110, 3) := by decide +kernel
theorem d_Seat_voice_8 : decode prog_7_method_13_code 8 = .ok (.istore_n 3, 1) := by decide +kernel
theorem d_Seat_voice_9 : decode prog_7_method_13_code 9 = .ok (.aload_n 0, 1) := by decide +kernel
theorem d_Seat_voice_13 : decode prog_7_method_13_code 13 = .ok (.iload_n 1, 1) := by decide +kernel
theorem d_Seat_voice_14 : decode prog_7_method_13_code 14 = .ok (.iconst 4, 1) := by decide +kernel
theorem d_Seat_voice_15 : decode prog_7_method_13_code 15 = .ok (.imul, 1) := by decide +kernel
theorem d_Seat_voice_16 : decode prog_7_method_13_code 16 = .ok (.aload_n 0, 1) := by decide +kernel
theorem d_Seat_voice_20 : decode prog_7_method_13_code 20 = .ok (.iload_n 2, 1) := by decide +kernel
theorem d_Seat_voice_21 : decode prog_7_method_13_code 21 = .ok (.iadd, 1) := by decide +kernel
theorem d_Seat_voice_22 : decode prog_7_method_13_code 22 = .ok (.iconst 4, 1) := by decide +kernel
theorem d_Seat_voice_24 : decode prog_7_method_13_code 24 = .ok (.iadd, 1) := by decide +kernel
theorem d_Seat_voice_26 : decode prog_7_method_13_code 26 = .ok (.istore 4, 2) := by decide +kernel
theorem d_Seat_voice_28 : decode prog_7_method_13_code 28 = .ok (.aload_n 0, 1) := by decide +kernel
theorem d_Seat_voice_29 : decode prog_7_method_13_code 29 = .ok (.iload_n 1, 1) := by decide +kernel
theorem d_Seat_voice_30 : decode prog_7_method_13_code 30 = .ok (.invokevirtual 115, 3) := by decide +kernel
theorem d_Seat_voice_33 : decode prog_7_method_13_code 33 = .ok (.aload_n 0, 1) := by decide +kernel
theorem d_Seat_voice_37 : decode prog_7_method_13_code 37 = .ok (.iload_n 1, 1) := by decide +kernel
theorem d_Seat_voice_38 : decode prog_7_method_13_code 38 = .ok (.bipush 6, 2) := by decide +kernel
theorem d_Seat_voice_40 : decode prog_7_method_13_code 40 = .ok (.imul, 1) := by decide +kernel
theorem d_Seat_voice_41 : decode prog_7_method_13_code 41 = .ok (.aload_n 0, 1) := by decide +kernel
theorem d_Seat_voice_45 : decode prog_7_method_13_code 45 = .ok (.iload_n 1, 1) := by decide +kernel
theorem d_Seat_voice_47 : decode prog_7_method_13_code 47 = .ok (.iadd, 1) := by decide +kernel
theorem d_Seat_voice_49 : decode prog_7_method_13_code 49 = .ok (.iload_n 3, 1) := by decide +kernel
theorem d_Seat_voice_50 : decode prog_7_method_13_code 50 = .ok (.aload_n 0, 1) := by decide +kernel
theorem d_Seat_voice_54 : decode prog_7_method_13_code 54 = .ok (.iload_n 1, 1) := by decide +kernel
theorem d_Seat_voice_56 : decode prog_7_method_13_code 56 = .ok (.iload 4, 2) := by decide +kernel
theorem d_Seat_voice_58 : decode prog_7_method_13_code 58 = .ok (.invokevirtual 119, 3) := by decide +kernel
theorem d_Seat_voice_61 : decode prog_7_method_13_code 61 = .ok (.ireturn, 1) := by decide +kernel
theorem d_Seat_voice_51 : decode prog_7_method_13_code 51 = .ok (.getfield 25, 3) := by decide +kernel
theorem d_Seat_voice_42 : decode prog_7_method_13_code 42 = .ok (.getfield 28, 3) := by decide +kernel
theorem d_Seat_voice_34 : decode prog_7_method_13_code 34 = .ok (.getfield 37, 3) := by decide +kernel
theorem d_Seat_voice_23 : decode prog_7_method_13_code 23 = .ok (.irem, 1) := by decide +kernel
theorem d_Seat_voice_17 : decode prog_7_method_13_code 17 = .ok (.getfield 62, 3) := by decide +kernel
theorem d_Seat_voice_10 : decode prog_7_method_13_code 10 = .ok (.getfield 34, 3) := by decide +kernel
theorem d_Seat_voice_25 : decode prog_7_method_13_code 25 = .ok (.iaload, 1) := by decide +kernel
theorem d_Seat_voice_46 : decode prog_7_method_13_code 46 = .ok (.iaload, 1) := by decide +kernel
theorem d_Seat_voice_48 : decode prog_7_method_13_code 48 = .ok (.iaload, 1) := by decide +kernel
theorem d_Seat_voice_55 : decode prog_7_method_13_code 55 = .ok (.iaload, 1) := by decide +kernel
set_option maxRecDepth 10000 in
set_option maxHeartbeats 4000000 in
theorem w_Seat_voice {q : QT} {z : ZT} {this : Nat} {a1 : Int32} {a2 : Int32} {μ : Mm} {ν : Ml} (C : Ctx sdX q z prog_7_method_13_code "BesideTom$Seating" 5 3 (some (FieldType.int))) (h_this : this ∈ seats) : R sdX q z 5 (φI μ ν) (F_Seat_voice this a1 a2 μ) μ ν 0 [(0, .ref (q.2.2.1 this)), (1, .int a1), (2, .int a2)] [] := by
  unfold F_Seat_voice
  refine R_aload_n C 0 d_Seat_voice_0 rfl rfl ?_
  refine R_iload_n C 1 d_Seat_voice_1 rfl rfl ?_
  refine R_bind (fun v1 h2 => ?_)
  refine R_callV C (se_0 h_this) (sc_0 h_this q _ _) rfl cf_Seat_neighbours rfl ml_Seat_107 im_Seat_neighbours sl_Seat_Seat_neighbours_Seat_neighbours (c_Seat_neighbours (gk C) h_this h2) (by decide) (by decide) rfl rfl (Nat.le_of_ble_eq_true rfl) d_Seat_voice_2 ?_
  refine R_bind (fun v3 h4 => ?_)
  refine R_callS C cf_Int_bitCount ml_Seat_110 sm_Int_bitCount (c_Int_bitCount (gk C) h4) (by decide) (by decide) rfl rfl (Nat.le_of_ble_eq_true rfl) d_Seat_voice_5 ?_
  refine R_istore_n C (lv' := [(3, .int v3), (0, .ref (q.2.2.1 this)), (1, .int a1), (2, .int a2)]) d_Seat_voice_8 rfl (by decide) rfl ?_
  refine R_aload_n C 1 d_Seat_voice_9 rfl rfl ?_
  refine gf_Seat_lines C h_this fl_Seat_34 d_Seat_voice_10 ?_
  refine R_iload_n C 2 d_Seat_voice_13 rfl rfl ?_
  refine R_iconst C d_Seat_voice_14 (v := 4) (by decide +kernel) ?_
  refine R_imul C d_Seat_voice_15 ?_
  refine R_aload_n C 1 d_Seat_voice_16 rfl rfl ?_
  refine gf_Seat_week C h_this fl_Seat_62 d_Seat_voice_17 ?_
  refine R_iload_n C 3 d_Seat_voice_20 rfl rfl ?_
  refine R_iadd C d_Seat_voice_21 ?_
  refine R_iconst C d_Seat_voice_22 (v := 4) (by decide +kernel) ?_
  refine R_irem C d_Seat_voice_23 (by decide) ?_
  refine R_iadd C d_Seat_voice_24 ?_
  refine R_iald C (se_5 h_this) (sc_5 h_this q _ _) d_Seat_voice_25 (fun v5 => ?_)
  refine R_istore C (lv' := [(4, .int v5), (3, .int v3), (0, .ref (q.2.2.1 this)), (1, .int a1), (2, .int a2)]) d_Seat_voice_26 (by decide) rfl ?_
  refine R_aload_n C 2 d_Seat_voice_28 rfl rfl ?_
  refine R_iload_n C 3 d_Seat_voice_29 rfl rfl ?_
  refine R_bind (fun v6 h7 => ?_)
  refine R_callV C (se_0 h_this) (sc_0 h_this q _ _) rfl cf_Seat_kindOf rfl ml_Seat_115 im_Seat_kindOf sl_Seat_Seat_kindOf_Seat_kindOf (c_Seat_kindOf (gk C) h_this h7) (by decide) (by decide) rfl rfl (Nat.le_of_ble_eq_true rfl) d_Seat_voice_30 ?_
  refine R_aload_n C 2 d_Seat_voice_33 rfl rfl ?_
  refine gf_Seat_mouths C h_this fl_Seat_37 d_Seat_voice_34 ?_
  refine R_iload_n C 3 d_Seat_voice_37 rfl rfl ?_
  refine R_bipush C d_Seat_voice_38 (v := 6) (by decide +kernel) ?_
  refine R_imul C d_Seat_voice_40 ?_
  refine R_aload_n C 2 d_Seat_voice_41 rfl rfl ?_
  refine gf_Seat_desk C h_this fl_Seat_28 d_Seat_voice_42 ?_
  refine R_iload_n C 3 d_Seat_voice_45 rfl rfl ?_
  refine R_iald C (se_3 h_this) (sc_3 h_this q _ _) d_Seat_voice_46 (fun v8 => ?_)
  refine R_iadd C d_Seat_voice_47 ?_
  refine R_iald C (se_6 h_this) (sc_6 h_this q _ _) d_Seat_voice_48 (fun v9 => ?_)
  refine R_iload_n C 1 d_Seat_voice_49 rfl rfl ?_
  refine R_aload_n C 2 d_Seat_voice_50 rfl rfl ?_
  refine gf_Seat_v C h_this fl_Seat_25 d_Seat_voice_51 ?_
  refine R_iload_n C 3 d_Seat_voice_54 rfl rfl ?_
  refine R_iald C (se_2 h_this) (sc_2 h_this q _ _) d_Seat_voice_55 (fun v10 => ?_)
  refine R_iload C 0 d_Seat_voice_56 rfl ?_
  refine R_bind (fun v11 h12 => ?_)
  refine Vvoice_PK_c C (kdh_Seat_kindOf h7) ml_Seat_119 h12 (by decide) (Nat.le_of_ble_eq_true rfl) d_Seat_voice_58 ?_
  exact R_iret C rfl d_Seat_voice_61
theorem c_Seat_voice {q : QT} (hg : GOk sdX q) {this : Nat} {a1 : Int32} {a2 : Int32} {μ : Mm} {ν : Ml} (h_this : this ∈ seats) {o : Int32} (ho : F_Seat_voice this a1 a2 μ = some o) : Ct sdX q y_Seat_voice prog_7_method_13_code 5 (some (FieldType.int)) 3 [.ref (q.2.2.1 this), .int a1, .int a2] μ ν ((φI μ ν) o).1 ((φI μ ν) o).2.1 ((φI μ ν) o).2.2 := Ct_of rfl hg (fun z C => w_Seat_voice C h_this) (Nat.le_of_ble_eq_true rfl) ho
