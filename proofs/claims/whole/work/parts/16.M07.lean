def F_M_pupilTells (a1 : Int32) (a2 : Int32) (μ : Mm) : Option (Int32 × Mm) := (F_M_body 12 μ).bind fun μ1 => (F_M_chatsAct a1 a2 μ1).bind fun p_ => match p_ with | (v3, μ4) => some ((v3 * 2), μ4)
theorem d_M_pupilTells_0 : decode prog_14_method_98_code 0 = .ok (.aload_n 0, 1) := by decide +kernel
theorem d_M_pupilTells_1 : decode prog_14_method_98_code 1 = .ok (.bipush 12, 2) := by decide +kernel
theorem d_M_pupilTells_3 : decode prog_14_method_98_code 3 = .ok (.invokevirtual 423, 3) := by decide +kernel
theorem d_M_pupilTells_6 : decode prog_14_method_98_code 6 = .ok (.aload_n 0, 1) := by decide +kernel
theorem d_M_pupilTells_7 : decode prog_14_method_98_code 7 = .ok (.iload_n 1, 1) := by decide +kernel
theorem d_M_pupilTells_8 : decode prog_14_method_98_code 8 = .ok (.iload_n 2, 1) := by decide +kernel
theorem d_M_pupilTells_9 : decode prog_14_method_98_code 9 = .ok (.invokevirtual 438, 3) := by decide +kernel
theorem d_M_pupilTells_12 : decode prog_14_method_98_code 12 = .ok (.iconst 2, 1) := by decide +kernel
theorem d_M_pupilTells_13 : decode prog_14_method_98_code 13 = .ok (.imul, 1) := by decide +kernel
theorem d_M_pupilTells_14 : decode prog_14_method_98_code 14 = .ok (.ireturn, 1) := by decide +kernel
set_option maxRecDepth 10000 in
set_option maxHeartbeats 4000000 in
theorem w_M_pupilTells {q : QT} {z : ZT} {a1 : Int32} {a2 : Int32} {μ : Mm} {ν : Ml} (C : Ctx sdM q z prog_14_method_98_code "BesideTomModel" 3 6 (some (FieldType.int))) : R sdM q z 3 (φIm ν) (F_M_pupilTells a1 a2 μ) μ ν 0 [(0, .ref (q.2.2.1 0)), (1, .int a1), (2, .int a2)] [] := by
  unfold F_M_pupilTells
  refine R_aload_n C 0 d_M_pupilTells_0 rfl rfl ?_
  refine R_bipush C d_M_pupilTells_1 (v := 12) (by decide +kernel) ?_
  refine R_bind (fun μ1 h2 => ?_)
  refine R_callV C mm_0 (mc_0 q _ _) rfl cf_M_body rfl ml_M_423 im_M_body sl_M_M_body_M_body (c_M_body (gk C) h2) (by decide) (by decide) rfl rfl (Nat.le_of_ble_eq_true rfl) d_M_pupilTells_3 ?_
  refine R_aload_n C 0 d_M_pupilTells_6 rfl rfl ?_
  refine R_iload_n C 1 d_M_pupilTells_7 rfl rfl ?_
  refine R_iload_n C 2 d_M_pupilTells_8 rfl rfl ?_
  refine R_bind (fun r_ h5 => ?_)
  obtain ⟨v3, μ4⟩ := r_
  refine R_callV C mm_0 (mc_0 q _ _) rfl cf_M_chatsAct rfl ml_M_438 im_M_chatsAct sl_M_M_chatsAct_M_chatsAct (c_M_chatsAct (gk C) h5) (by decide) (by decide) rfl rfl (Nat.le_of_ble_eq_true rfl) d_M_pupilTells_9 ?_
  refine R_iconst C d_M_pupilTells_12 (v := 2) (by decide +kernel) ?_
  refine R_imul C d_M_pupilTells_13 ?_
  exact R_iret C rfl d_M_pupilTells_14
theorem c_M_pupilTells {q : QT} (hg : GOk sdM q) {a1 : Int32} {a2 : Int32} {μ : Mm} {ν : Ml} {o : Int32 × Mm} (ho : F_M_pupilTells a1 a2 μ = some o) : Ct sdM q y_M_pupilTells prog_14_method_98_code 3 (some (FieldType.int)) 6 [.ref (q.2.2.1 0), .int a1, .int a2] μ ν ((φIm ν) o).1 ((φIm ν) o).2.1 ((φIm ν) o).2.2 := Ct_of rfl hg (fun z C => w_M_pupilTells C) (Nat.le_of_ble_eq_true rfl) ho
def L_M_can_38 (f9 : Int32) (f10 : Int32) (f11 : Int32) (k : Int32 → Int32 → Mm → Option (Int32 × Mm)) : Nat → Int32 → Int32 → Int32 → Mm → Option (Int32 × Mm)
  | 0, _, _, _, _ => none
  | n + 1, s6, s7, s8, μ12 => (if s8 < 0 then k s6 s7 μ12 else (wrI μ12 5 6 f9 s8).bind fun μ13 => (F_M_isHeard μ13).bind fun p_ => match p_ with | (v14, μ15) => jn (α := Int32 × Int32) (fun K19 => (if v14 = 0 then K19 (s6, s7) else K19 ((s6 + 1), s8))) (fun (p_ : Int32 × Int32) => match p_ with | (j17, j18) => L_M_can_38 f9 f10 f11 k n j17 j18 (s8 + (-1)) μ15))
def F_M_can (a1 : Int32) (a2 : Int32) (μ : Mm) : Option (Int32 × Mm) := (F_M_isPupil a1 μ).bind fun v1 => (if v1 = 0 then some ((-1), μ) else (F_M_in a2 0 1).bind fun v3 => (if v3 = 0 then some ((-1), μ) else (rdI (μ 5) 6 a1).bind fun v5 => L_M_can_38 a1 a2 v5 (fun (x20 : Int32) (x21 : Int32) (μ22 : Mm) => (wrI μ22 5 6 a1 v5).bind fun μ23 => (if a2 = 0 then some (x20, μ23) else some (x21, μ23))) fu 0 (-5) 9 μ))
theorem d_M_can_0 : decode prog_14_method_80_code 0 = .ok (.aload_n 0, 1) := by decide +kernel
theorem d_M_can_1 : decode prog_14_method_80_code 1 = .ok (.iload_n 1, 1) := by decide +kernel
theorem d_M_can_2 : decode prog_14_method_80_code 2 = .ok (.invokevirtual 233, 3) := by decide +kernel
theorem d_M_can_18 : decode prog_14_method_80_code 18 = .ok (.iconst (-1), 1) := by decide +kernel
theorem d_M_can_19 : decode prog_14_method_80_code 19 = .ok (.ireturn, 1) := by decide +kernel
theorem d_M_can_8 : decode prog_14_method_80_code 8 = .ok (.aload_n 0, 1) := by decide +kernel
theorem d_M_can_9 : decode prog_14_method_80_code 9 = .ok (.iload_n 2, 1) := by decide +kernel
theorem d_M_can_10 : decode prog_14_method_80_code 10 = .ok (.iconst 0, 1) := by decide +kernel
theorem d_M_can_11 : decode prog_14_method_80_code 11 = .ok (.iconst 1, 1) := by decide +kernel
theorem d_M_can_12 : decode prog_14_method_80_code 12 = .ok (.invokevirtual 225, 3) := by decide +kernel
theorem d_M_can_20 : decode prog_14_method_80_code 20 = .ok (.aload_n 0, 1) := by decide +kernel
theorem d_M_can_24 : decode prog_14_method_80_code 24 = .ok (.iload_n 1, 1) := by decide +kernel
theorem d_M_can_26 : decode prog_14_method_80_code 26 = .ok (.istore_n 3, 1) := by decide +kernel
theorem d_M_can_27 : decode prog_14_method_80_code 27 = .ok (.iconst 0, 1) := by decide +kernel
theorem d_M_can_28 : decode prog_14_method_80_code 28 = .ok (.istore 4, 2) := by decide +kernel
theorem d_M_can_30 : decode prog_14_method_80_code 30 = .ok (.bipush (-5), 2) := by decide +kernel
theorem d_M_can_32 : decode prog_14_method_80_code 32 = .ok (.istore 5, 2) := by decide +kernel
theorem d_M_can_34 : decode prog_14_method_80_code 34 = .ok (.bipush 9, 2) := by decide +kernel
theorem d_M_can_36 : decode prog_14_method_80_code 36 = .ok (.istore 6, 2) := by decide +kernel
theorem d_M_can_38 : decode prog_14_method_80_code 38 = .ok (.iload 6, 2) := by decide +kernel
theorem d_M_can_43 : decode prog_14_method_80_code 43 = .ok (.aload_n 0, 1) := by decide +kernel
theorem d_M_can_47 : decode prog_14_method_80_code 47 = .ok (.iload_n 1, 1) := by decide +kernel
theorem d_M_can_48 : decode prog_14_method_80_code 48 = .ok (.iload 6, 2) := by decide +kernel
theorem d_M_can_51 : decode prog_14_method_80_code 51 = .ok (.aload_n 0, 1) := by decide +kernel
theorem d_M_can_52 : decode prog_14_method_80_code 52 = .ok (.invokevirtual 408, 3) := by decide +kernel
theorem d_M_can_61 : decode prog_14_method_80_code 61 = .ok (.iinc 4 1, 3) := by decide +kernel
theorem d_M_can_64 : decode prog_14_method_80_code 64 = .ok (.iload 6, 2) := by decide +kernel
theorem d_M_can_66 : decode prog_14_method_80_code 66 = .ok (.istore 5, 2) := by decide +kernel
theorem d_M_can_58 : decode prog_14_method_80_code 58 = .ok (.goto 10, 3) := by decide +kernel
theorem d_M_can_55 : decode prog_14_method_80_code 55 = .ok (.ifCond .ne 6, 3) := by decide +kernel
theorem d_M_can_68 : decode prog_14_method_80_code 68 = .ok (.iinc 6 (-1), 3) := by decide +kernel
theorem d_M_can_71 : decode prog_14_method_80_code 71 = .ok (.goto (-33), 3) := by decide +kernel
theorem d_M_can_50 : decode prog_14_method_80_code 50 = .ok (.iastore, 1) := by decide +kernel
theorem d_M_can_44 : decode prog_14_method_80_code 44 = .ok (.getfield 26, 3) := by decide +kernel
theorem d_M_can_40 : decode prog_14_method_80_code 40 = .ok (.ifCond .lt 34, 3) := by decide +kernel
set_option maxRecDepth 10000 in
set_option maxHeartbeats 4000000 in
theorem W_M_can_38 {q : QT} {z : ZT} {ν : Ml} {f9 : Int32} {f10 : Int32} {f11 : Int32} {k : Int32 → Int32 → Mm → Option (Int32 × Mm)} (C : Ctx sdM q z prog_14_method_80_code "BesideTomModel" 7 7 (some (FieldType.int))) (hk : ∀ (e0_ : Int32) (e1_ : Int32) (me_ : Mm), R sdM q z 7 (φIm ν) (k e0_ e1_ me_) me_ ν 74 [(0, .ref (q.2.2.1 0)), (1, .int f9), (2, .int f10), (3, .int f11), (4, .int e0_), (5, .int e1_)] []) : ∀ (n : Nat) (s6 : Int32) (s7 : Int32) (s8 : Int32) (μ12 : Mm), R sdM q z 7 (φIm ν) (L_M_can_38 f9 f10 f11 k n s6 s7 s8 μ12) μ12 ν 38 [(4, .int s6), (5, .int s7), (6, .int s8), (0, .ref (q.2.2.1 0)), (1, .int f9), (2, .int f10), (3, .int f11)] [] := by
  intro n
  induction n with
  | zero =>
    intros
    exact R_none
  | succ n ih =>
    intro s6 s7 s8 μ12
    rw [L_M_can_38]
    refine R_iload C 2 d_M_can_38 rfl ?_
    refine R_if_lt C d_M_can_40 (tgt := 74) (by decide) ?_ ?_
    · skip
      exact R_sub [3, 4, 5, 6, 0, 1] rfl (hk s6 s7 μ12)
    · skip
      refine R_aload_n C 3 d_M_can_43 rfl rfl ?_
      refine gf_M_v C fl_M_26 d_M_can_44 ?_
      refine R_iload_n C 4 d_M_can_47 rfl rfl ?_
      refine R_iload C 2 d_M_can_48 rfl ?_
      refine R_iast C mm_5 (fun h => mc_5 q h _) d_M_can_50 (fun μ13 => ?_)
      refine R_aload_n C 3 d_M_can_51 rfl rfl ?_
      refine R_bind (fun r_ h16 => ?_)
      obtain ⟨v14, μ15⟩ := r_
      refine R_callV C mm_0 (mc_0 q _ _) rfl cf_M_isHeard rfl ml_M_408 im_M_isHeard sl_M_M_isHeard_M_isHeard (c_M_isHeard (gk C) h16) (by decide) (by decide) rfl rfl (Nat.le_of_ble_eq_true rfl) d_M_can_52 ?_
      refine R_jn (fun K19 => ∀ (j17 : Int32) (j18 : Int32), R sdM q z 7 (φIm ν) (K19 (j17, j18)) μ15 ν 68 [(0, .ref (q.2.2.1 0)), (1, .int f9), (2, .int f10), (3, .int f11), (4, .int j17), (5, .int j18), (6, .int s8)] []) ?_ (fun K19 hK19 => ?_)
      · intro j17 j18
        refine R_iinc C 6 d_M_can_68 rfl (iinc_v _ (v := (-1)) (by decide +kernel)) (lv' := [(6, .int (s8 + (-1))), (0, .ref (q.2.2.1 0)), (1, .int f9), (2, .int f10), (3, .int f11), (4, .int j17), (5, .int j18)]) (by decide) rfl ?_
        refine R_goto C d_M_can_71 (tgt := 38) (by decide) ?_
        exact R_sub [5, 6, 0, 1, 2, 3, 4] rfl (ih j17 j18 (s8 + (-1)) μ15)
      · skip
        refine R_if_ne C d_M_can_55 (tgt := 61) (by decide) ?_ ?_
        · skip
          refine R_iinc C 0 d_M_can_61 rfl (iinc_v _ (v := 1) (by decide +kernel)) (lv' := [(4, .int (s6 + 1)), (5, .int s7), (6, .int s8), (0, .ref (q.2.2.1 0)), (1, .int f9), (2, .int f10), (3, .int f11)]) (by decide) rfl ?_
          refine R_iload C 2 d_M_can_64 rfl ?_
          refine R_istore C (lv' := [(5, .int s8), (4, .int (s6 + 1)), (6, .int s8), (0, .ref (q.2.2.1 0)), (1, .int f9), (2, .int f10), (3, .int f11)]) d_M_can_66 (by decide) rfl ?_
          exact R_sub [3, 4, 5, 6, 1, 0, 2] rfl (hK19 (s6 + 1) s8)
        · skip
          refine R_goto C d_M_can_58 (tgt := 68) (by decide) ?_
          exact R_sub [3, 4, 5, 6, 0, 1, 2] rfl (hK19 s6 s7)
theorem d_M_can_74 : decode prog_14_method_80_code 74 = .ok (.aload_n 0, 1) := by decide +kernel
theorem d_M_can_78 : decode prog_14_method_80_code 78 = .ok (.iload_n 1, 1) := by decide +kernel
theorem d_M_can_79 : decode prog_14_method_80_code 79 = .ok (.iload_n 3, 1) := by decide +kernel
theorem d_M_can_81 : decode prog_14_method_80_code 81 = .ok (.iload_n 2, 1) := by decide +kernel
theorem d_M_can_90 : decode prog_14_method_80_code 90 = .ok (.iload 5, 2) := by decide +kernel
theorem d_M_can_92 : decode prog_14_method_80_code 92 = .ok (.ireturn, 1) := by decide +kernel
theorem d_M_can_85 : decode prog_14_method_80_code 85 = .ok (.iload 4, 2) := by decide +kernel
theorem d_M_can_87 : decode prog_14_method_80_code 87 = .ok (.goto 5, 3) := by decide +kernel
theorem d_M_can_82 : decode prog_14_method_80_code 82 = .ok (.ifCond .ne 8, 3) := by decide +kernel
theorem d_M_can_80 : decode prog_14_method_80_code 80 = .ok (.iastore, 1) := by decide +kernel
theorem d_M_can_75 : decode prog_14_method_80_code 75 = .ok (.getfield 26, 3) := by decide +kernel
theorem d_M_can_21 : decode prog_14_method_80_code 21 = .ok (.getfield 26, 3) := by decide +kernel
theorem d_M_can_15 : decode prog_14_method_80_code 15 = .ok (.ifCond .ne 5, 3) := by decide +kernel
theorem d_M_can_5 : decode prog_14_method_80_code 5 = .ok (.ifCond .eq 13, 3) := by decide +kernel
theorem d_M_can_25 : decode prog_14_method_80_code 25 = .ok (.iaload, 1) := by decide +kernel
set_option maxRecDepth 10000 in
set_option maxHeartbeats 4000000 in
theorem w_M_can {q : QT} {z : ZT} {a1 : Int32} {a2 : Int32} {μ : Mm} {ν : Ml} (C : Ctx sdM q z prog_14_method_80_code "BesideTomModel" 7 7 (some (FieldType.int))) : R sdM q z 7 (φIm ν) (F_M_can a1 a2 μ) μ ν 0 [(0, .ref (q.2.2.1 0)), (1, .int a1), (2, .int a2)] [] := by
  unfold F_M_can
  refine R_aload_n C 0 d_M_can_0 rfl rfl ?_
  refine R_iload_n C 1 d_M_can_1 rfl rfl ?_
  refine R_bind (fun v1 h2 => ?_)
  refine R_callV C mm_0 (mc_0 q _ _) rfl cf_M_isPupil rfl ml_M_233 im_M_isPupil sl_M_M_isPupil_M_isPupil (c_M_isPupil (gk C) h2) (by decide) (by decide) rfl rfl (Nat.le_of_ble_eq_true rfl) d_M_can_2 ?_
  refine R_if_eq C d_M_can_5 (tgt := 18) (by decide) ?_ ?_
  · skip
    refine R_iconst C d_M_can_18 (v := (-1)) (by decide +kernel) ?_
    exact R_iret C rfl d_M_can_19
  · skip
    refine R_aload_n C 0 d_M_can_8 rfl rfl ?_
    refine R_iload_n C 2 d_M_can_9 rfl rfl ?_
    refine R_iconst C d_M_can_10 (v := 0) (by decide +kernel) ?_
    refine R_iconst C d_M_can_11 (v := 1) (by decide +kernel) ?_
    refine R_bind (fun v3 h4 => ?_)
    refine R_callV C mm_0 (mc_0 q _ _) rfl cf_M_in rfl ml_M_225 im_M_in sl_M_M_in_M_in (c_M_in (gk C) h4) (by decide) (by decide) rfl rfl (Nat.le_of_ble_eq_true rfl) d_M_can_12 ?_
    refine R_if_ne C d_M_can_15 (tgt := 20) (by decide) ?_ ?_
    · skip
      refine R_aload_n C 0 d_M_can_20 rfl rfl ?_
      refine gf_M_v C fl_M_26 d_M_can_21 ?_
      refine R_iload_n C 1 d_M_can_24 rfl rfl ?_
      refine R_iald C mm_5 (mc_5 q _ _) d_M_can_25 (fun v5 => ?_)
      refine R_istore_n C (lv' := [(3, .int v5), (0, .ref (q.2.2.1 0)), (1, .int a1), (2, .int a2)]) d_M_can_26 rfl (by decide) rfl ?_
      refine R_iconst C d_M_can_27 (v := 0) (by decide +kernel) ?_
      refine R_istore C (lv' := [(4, .int 0), (3, .int v5), (0, .ref (q.2.2.1 0)), (1, .int a1), (2, .int a2)]) d_M_can_28 (by decide) rfl ?_
      refine R_bipush C d_M_can_30 (v := (-5)) (by decide +kernel) ?_
      refine R_istore C (lv' := [(5, .int (-5)), (4, .int 0), (3, .int v5), (0, .ref (q.2.2.1 0)), (1, .int a1), (2, .int a2)]) d_M_can_32 (by decide) rfl ?_
      refine R_bipush C d_M_can_34 (v := 9) (by decide +kernel) ?_
      refine R_istore C (lv' := [(6, .int 9), (5, .int (-5)), (4, .int 0), (3, .int v5), (0, .ref (q.2.2.1 0)), (1, .int a1), (2, .int a2)]) d_M_can_36 (by decide) rfl ?_
      refine R_sub [2, 1, 0, 4, 5, 6, 3] rfl ?_
      refine W_M_can_38 C ?_ fu _ _ _ _
      intro x20 x21 μ22
      refine R_aload_n C 0 d_M_can_74 rfl rfl ?_
      refine gf_M_v C fl_M_26 d_M_can_75 ?_
      refine R_iload_n C 1 d_M_can_78 rfl rfl ?_
      refine R_iload_n C 3 d_M_can_79 rfl rfl ?_
      refine R_iast C mm_5 (fun h => mc_5 q h _) d_M_can_80 (fun μ23 => ?_)
      refine R_iload_n C 2 d_M_can_81 rfl rfl ?_
      refine R_if_ne C d_M_can_82 (tgt := 90) (by decide) ?_ ?_
      · skip
        refine R_iload C 5 d_M_can_90 rfl ?_
        exact R_iret C rfl d_M_can_92
      · skip
        refine R_iload C 4 d_M_can_85 rfl ?_
        refine R_goto C d_M_can_87 (tgt := 92) (by decide) ?_
        exact R_iret C rfl d_M_can_92
    · skip
      refine R_iconst C d_M_can_18 (v := (-1)) (by decide +kernel) ?_
      exact R_iret C rfl d_M_can_19
theorem c_M_can {q : QT} (hg : GOk sdM q) {a1 : Int32} {a2 : Int32} {μ : Mm} {ν : Ml} {o : Int32 × Mm} (ho : F_M_can a1 a2 μ = some o) : Ct sdM q y_M_can prog_14_method_80_code 7 (some (FieldType.int)) 7 [.ref (q.2.2.1 0), .int a1, .int a2] μ ν ((φIm ν) o).1 ((φIm ν) o).2.1 ((φIm ν) o).2.2 := Ct_of rfl hg (fun z C => w_M_can C) (Nat.le_of_ble_eq_true rfl) ho
def L_M_changeOf_23 (f11 : Int32) (k : Int32 → Int32 → Mm → Option (Int32 × Mm)) : Nat → Int32 → Int32 → Int32 → Mm → Option (Int32 × Mm)
  | 0, _, _, _, _ => none
  | n + 1, s8, s9, s10, μ12 => (if (μ12 0 0) ≤ s10 then k s8 s9 μ12 else (rdI (μ12 6) 6 s10).bind fun v13 => (F_M_noiseIfMoved f11 v13 μ12).bind fun p_ => match p_ with | (v14, μ15) => jn (α := Int32 × Int32) (fun K19 => (if v14 < s9 then K19 (((10 * f11) + s10), v14) else K19 (s8, s9))) (fun (p_ : Int32 × Int32) => match p_ with | (j17, j18) => L_M_changeOf_23 f11 k n j17 j18 (s10 + 1) μ15))
def L_M_changeOf_10 (k : Int32 → Mm → Option (Int32 × Mm)) : Nat → Int32 → Int32 → Int32 → Mm → Option (Int32 × Mm)
  | 0, _, _, _, _ => none
  | n + 1, s4, s5, s6, μ7 => (if (μ7 0 0) ≤ s6 then k s4 μ7 else L_M_changeOf_23 s6 (fun (x20 : Int32) (x21 : Int32) (μ22 : Mm) => L_M_changeOf_10 k n x20 x21 (s6 + 1) μ22) fu s4 s5 (s6 + 1) μ7)
def F_M_changeOf (μ : Mm) : Option (Int32 × Mm) := (F_M_noise μ).bind fun p_ => match p_ with | (v1, μ2) => L_M_changeOf_10 (fun (x23 : Int32) (μ24 : Mm) => some (x23, μ24)) fu (-5) v1 0 μ2
theorem d_M_changeOf_0 : decode prog_14_method_69_code 0 = .ok (.bipush (-5), 2) := by decide +kernel
theorem d_M_changeOf_2 : decode prog_14_method_69_code 2 = .ok (.istore_n 1, 1) := by decide +kernel
theorem d_M_changeOf_3 : decode prog_14_method_69_code 3 = .ok (.aload_n 0, 1) := by decide +kernel
theorem d_M_changeOf_4 : decode prog_14_method_69_code 4 = .ok (.invokevirtual 251, 3) := by decide +kernel
theorem d_M_changeOf_7 : decode prog_14_method_69_code 7 = .ok (.istore_n 2, 1) := by decide +kernel
theorem d_M_changeOf_8 : decode prog_14_method_69_code 8 = .ok (.iconst 0, 1) := by decide +kernel
theorem d_M_changeOf_9 : decode prog_14_method_69_code 9 = .ok (.istore_n 3, 1) := by decide +kernel
theorem d_M_changeOf_10 : decode prog_14_method_69_code 10 = .ok (.iload_n 3, 1) := by decide +kernel
theorem d_M_changeOf_11 : decode prog_14_method_69_code 11 = .ok (.aload_n 0, 1) := by decide +kernel
theorem d_M_changeOf_18 : decode prog_14_method_69_code 18 = .ok (.iload_n 3, 1) := by decide +kernel
theorem d_M_changeOf_19 : decode prog_14_method_69_code 19 = .ok (.iconst 1, 1) := by decide +kernel
theorem d_M_changeOf_20 : decode prog_14_method_69_code 20 = .ok (.iadd, 1) := by decide +kernel
theorem d_M_changeOf_21 : decode prog_14_method_69_code 21 = .ok (.istore 4, 2) := by decide +kernel
theorem d_M_changeOf_23 : decode prog_14_method_69_code 23 = .ok (.iload 4, 2) := by decide +kernel
theorem d_M_changeOf_25 : decode prog_14_method_69_code 25 = .ok (.aload_n 0, 1) := by decide +kernel
theorem d_M_changeOf_32 : decode prog_14_method_69_code 32 = .ok (.aload_n 0, 1) := by decide +kernel
theorem d_M_changeOf_33 : decode prog_14_method_69_code 33 = .ok (.iload_n 3, 1) := by decide +kernel
theorem d_M_changeOf_34 : decode prog_14_method_69_code 34 = .ok (.aload_n 0, 1) := by decide +kernel
theorem d_M_changeOf_38 : decode prog_14_method_69_code 38 = .ok (.iload 4, 2) := by decide +kernel
theorem d_M_changeOf_41 : decode prog_14_method_69_code 41 = .ok (.invokevirtual 387, 3) := by decide +kernel
theorem d_M_changeOf_44 : decode prog_14_method_69_code 44 = .ok (.istore 5, 2) := by decide +kernel
theorem d_M_changeOf_46 : decode prog_14_method_69_code 46 = .ok (.iload 5, 2) := by decide +kernel
theorem d_M_changeOf_48 : decode prog_14_method_69_code 48 = .ok (.iload_n 2, 1) := by decide +kernel
theorem d_M_changeOf_55 : decode prog_14_method_69_code 55 = .ok (.bipush 10, 2) := by decide +kernel
theorem d_M_changeOf_57 : decode prog_14_method_69_code 57 = .ok (.iload_n 3, 1) := by decide +kernel
theorem d_M_changeOf_58 : decode prog_14_method_69_code 58 = .ok (.imul, 1) := by decide +kernel
theorem d_M_changeOf_59 : decode prog_14_method_69_code 59 = .ok (.iload 4, 2) := by decide +kernel
theorem d_M_changeOf_61 : decode prog_14_method_69_code 61 = .ok (.iadd, 1) := by decide +kernel
theorem d_M_changeOf_62 : decode prog_14_method_69_code 62 = .ok (.istore_n 1, 1) := by decide +kernel
theorem d_M_changeOf_63 : decode prog_14_method_69_code 63 = .ok (.iload 5, 2) := by decide +kernel
theorem d_M_changeOf_65 : decode prog_14_method_69_code 65 = .ok (.istore_n 2, 1) := by decide +kernel
theorem d_M_changeOf_52 : decode prog_14_method_69_code 52 = .ok (.goto 14, 3) := by decide +kernel
theorem d_M_changeOf_49 : decode prog_14_method_69_code 49 = .ok (.if_icmp .lt 6, 3) := by decide +kernel
theorem d_M_changeOf_66 : decode prog_14_method_69_code 66 = .ok (.iinc 4 1, 3) := by decide +kernel
theorem d_M_changeOf_69 : decode prog_14_method_69_code 69 = .ok (.goto (-46), 3) := by decide +kernel
theorem d_M_changeOf_35 : decode prog_14_method_69_code 35 = .ok (.getfield 29, 3) := by decide +kernel
theorem d_M_changeOf_29 : decode prog_14_method_69_code 29 = .ok (.if_icmp .ge 43, 3) := by decide +kernel
theorem d_M_changeOf_26 : decode prog_14_method_69_code 26 = .ok (.getfield 7, 3) := by decide +kernel
theorem d_M_changeOf_40 : decode prog_14_method_69_code 40 = .ok (.iaload, 1) := by decide +kernel
set_option maxRecDepth 10000 in
set_option maxHeartbeats 4000000 in
theorem W_M_changeOf_23 {q : QT} {z : ZT} {ν : Ml} {f11 : Int32} {k : Int32 → Int32 → Mm → Option (Int32 × Mm)} (C : Ctx sdM q z prog_14_method_69_code "BesideTomModel" 6 7 (some (FieldType.int))) (hk : ∀ (e0_ : Int32) (e1_ : Int32) (me_ : Mm), R sdM q z 6 (φIm ν) (k e0_ e1_ me_) me_ ν 72 [(0, .ref (q.2.2.1 0)), (1, .int e0_), (2, .int e1_), (3, .int f11)] []) : ∀ (n : Nat) (s8 : Int32) (s9 : Int32) (s10 : Int32) (μ12 : Mm), R sdM q z 6 (φIm ν) (L_M_changeOf_23 f11 k n s8 s9 s10 μ12) μ12 ν 23 [(1, .int s8), (2, .int s9), (4, .int s10), (0, .ref (q.2.2.1 0)), (3, .int f11)] [] := by
  intro n
  induction n with
  | zero =>
    intros
    exact R_none
  | succ n ih =>
    intro s8 s9 s10 μ12
    rw [L_M_changeOf_23]
    refine R_iload C 2 d_M_changeOf_23 rfl ?_
    refine R_aload_n C 3 d_M_changeOf_25 rfl rfl ?_
    refine gf_M_pupils C fl_M_7 d_M_changeOf_26 ?_
    refine R_icmp_ge C d_M_changeOf_29 (tgt := 72) (by decide) ?_ ?_
    · skip
      exact R_sub [3, 0, 1, 4] rfl (hk s8 s9 μ12)
    · skip
      refine R_aload_n C 3 d_M_changeOf_32 rfl rfl ?_
      refine R_iload_n C 4 d_M_changeOf_33 rfl rfl ?_
      refine R_aload_n C 3 d_M_changeOf_34 rfl rfl ?_
      refine gf_M_desk C fl_M_29 d_M_changeOf_35 ?_
      refine R_iload C 2 d_M_changeOf_38 rfl ?_
      refine R_iald C mm_6 (mc_6 q _ _) d_M_changeOf_40 (fun v13 => ?_)
      refine R_bind (fun r_ h16 => ?_)
      obtain ⟨v14, μ15⟩ := r_
      refine R_callV C mm_0 (mc_0 q _ _) rfl cf_M_noiseIfMoved rfl ml_M_387 im_M_noiseIfMoved sl_M_M_noiseIfMoved_M_noiseIfMoved (c_M_noiseIfMoved (gk C) h16) (by decide) (by decide) rfl rfl (Nat.le_of_ble_eq_true rfl) d_M_changeOf_41 ?_
      refine R_istore C (lv' := [(5, .int v14), (1, .int s8), (2, .int s9), (4, .int s10), (0, .ref (q.2.2.1 0)), (3, .int f11)]) d_M_changeOf_44 (by decide) rfl ?_
      refine R_iload C 0 d_M_changeOf_46 rfl ?_
      refine R_iload_n C 2 d_M_changeOf_48 rfl rfl ?_
      refine R_jn (fun K19 => ∀ (j17 : Int32) (j18 : Int32), R sdM q z 6 (φIm ν) (K19 (j17, j18)) μ15 ν 66 [(0, .ref (q.2.2.1 0)), (1, .int j17), (2, .int j18), (3, .int f11), (4, .int s10)] []) ?_ (fun K19 hK19 => ?_)
      · intro j17 j18
        refine R_iinc C 4 d_M_changeOf_66 rfl (iinc_v _ (v := 1) (by decide +kernel)) (lv' := [(4, .int (s10 + 1)), (0, .ref (q.2.2.1 0)), (1, .int j17), (2, .int j18), (3, .int f11)]) (by decide) rfl ?_
        refine R_goto C d_M_changeOf_69 (tgt := 23) (by decide) ?_
        exact R_sub [2, 3, 0, 1, 4] rfl (ih j17 j18 (s10 + 1) μ15)
      · skip
        refine R_icmp_lt C d_M_changeOf_49 (tgt := 55) (by decide) ?_ ?_
        · skip
          refine R_bipush C d_M_changeOf_55 (v := 10) (by decide +kernel) ?_
          refine R_iload_n C 5 d_M_changeOf_57 rfl rfl ?_
          refine R_imul C d_M_changeOf_58 ?_
          refine R_iload C 3 d_M_changeOf_59 rfl ?_
          refine R_iadd C d_M_changeOf_61 ?_
          refine R_istore_n C (lv' := [(1, .int ((10 * f11) + s10)), (5, .int v14), (2, .int s9), (4, .int s10), (0, .ref (q.2.2.1 0)), (3, .int f11)]) d_M_changeOf_62 rfl (by decide) rfl ?_
          refine R_iload C 1 d_M_changeOf_63 rfl ?_
          refine R_istore_n C (lv' := [(2, .int v14), (1, .int ((10 * f11) + s10)), (5, .int v14), (4, .int s10), (0, .ref (q.2.2.1 0)), (3, .int f11)]) d_M_changeOf_65 rfl (by decide) rfl ?_
          exact R_sub [4, 1, 0, 5, 3] rfl (hK19 ((10 * f11) + s10) v14)
        · skip
          refine R_goto C d_M_changeOf_52 (tgt := 66) (by decide) ?_
          exact R_sub [4, 1, 2, 5, 3] rfl (hK19 s8 s9)
theorem d_M_changeOf_72 : decode prog_14_method_69_code 72 = .ok (.iinc 3 1, 3) := by decide +kernel
theorem d_M_changeOf_75 : decode prog_14_method_69_code 75 = .ok (.goto (-65), 3) := by decide +kernel
theorem d_M_changeOf_15 : decode prog_14_method_69_code 15 = .ok (.if_icmp .ge 63, 3) := by decide +kernel
theorem d_M_changeOf_12 : decode prog_14_method_69_code 12 = .ok (.getfield 7, 3) := by decide +kernel
set_option maxRecDepth 10000 in
set_option maxHeartbeats 4000000 in
theorem W_M_changeOf_10 {q : QT} {z : ZT} {ν : Ml} {k : Int32 → Mm → Option (Int32 × Mm)} (C : Ctx sdM q z prog_14_method_69_code "BesideTomModel" 6 7 (some (FieldType.int))) (hk : ∀ (e0_ : Int32) (me_ : Mm), R sdM q z 6 (φIm ν) (k e0_ me_) me_ ν 78 [(1, .int e0_)] []) : ∀ (n : Nat) (s4 : Int32) (s5 : Int32) (s6 : Int32) (μ7 : Mm), R sdM q z 6 (φIm ν) (L_M_changeOf_10 k n s4 s5 s6 μ7) μ7 ν 10 [(1, .int s4), (2, .int s5), (3, .int s6), (0, .ref (q.2.2.1 0))] [] := by
  intro n
  induction n with
  | zero =>
    intros
    exact R_none
  | succ n ih =>
    intro s4 s5 s6 μ7
    rw [L_M_changeOf_10]
    refine R_iload_n C 2 d_M_changeOf_10 rfl rfl ?_
    refine R_aload_n C 3 d_M_changeOf_11 rfl rfl ?_
    refine gf_M_pupils C fl_M_7 d_M_changeOf_12 ?_
    refine R_icmp_ge C d_M_changeOf_15 (tgt := 78) (by decide) ?_ ?_
    · skip
      exact R_sub [0] rfl (hk s4 μ7)
    · skip
      refine R_iload_n C 2 d_M_changeOf_18 rfl rfl ?_
      refine R_iconst C d_M_changeOf_19 (v := 1) (by decide +kernel) ?_
      refine R_iadd C d_M_changeOf_20 ?_
      refine R_istore C (lv' := [(4, .int (s6 + 1)), (1, .int s4), (2, .int s5), (3, .int s6), (0, .ref (q.2.2.1 0))]) d_M_changeOf_21 (by decide) rfl ?_
      refine R_sub [1, 2, 0, 4, 3] rfl ?_
      refine W_M_changeOf_23 C ?_ fu _ _ _ _
      intro x20 x21 μ22
      refine R_iinc C 3 d_M_changeOf_72 rfl (iinc_v _ (v := 1) (by decide +kernel)) (lv' := [(3, .int (s6 + 1)), (0, .ref (q.2.2.1 0)), (1, .int x20), (2, .int x21)]) (by decide) rfl ?_
      refine R_goto C d_M_changeOf_75 (tgt := 10) (by decide) ?_
      exact R_sub [2, 3, 0, 1] rfl (ih x20 x21 (s6 + 1) μ22)
theorem d_M_changeOf_78 : decode prog_14_method_69_code 78 = .ok (.iload_n 1, 1) := by decide +kernel
theorem d_M_changeOf_79 : decode prog_14_method_69_code 79 = .ok (.ireturn, 1) := by decide +kernel
set_option maxRecDepth 10000 in
set_option maxHeartbeats 4000000 in
theorem w_M_changeOf {q : QT} {z : ZT} {μ : Mm} {ν : Ml} (C : Ctx sdM q z prog_14_method_69_code "BesideTomModel" 6 7 (some (FieldType.int))) : R sdM q z 6 (φIm ν) (F_M_changeOf μ) μ ν 0 [(0, .ref (q.2.2.1 0))] [] := by
  unfold F_M_changeOf
  refine R_bipush C d_M_changeOf_0 (v := (-5)) (by decide +kernel) ?_
  refine R_istore_n C (lv' := [(1, .int (-5)), (0, .ref (q.2.2.1 0))]) d_M_changeOf_2 rfl (by decide) rfl ?_
  refine R_aload_n C 1 d_M_changeOf_3 rfl rfl ?_
  refine R_bind (fun r_ h3 => ?_)
  obtain ⟨v1, μ2⟩ := r_
  refine R_callV C mm_0 (mc_0 q _ _) rfl cf_M_noise rfl ml_M_251 im_M_noise sl_M_M_noise_M_noise (c_M_noise (gk C) h3) (by decide) (by decide) rfl rfl (Nat.le_of_ble_eq_true rfl) d_M_changeOf_4 ?_
  refine R_istore_n C (lv' := [(2, .int v1), (1, .int (-5)), (0, .ref (q.2.2.1 0))]) d_M_changeOf_7 rfl (by decide) rfl ?_
  refine R_iconst C d_M_changeOf_8 (v := 0) (by decide +kernel) ?_
  refine R_istore_n C (lv' := [(3, .int 0), (2, .int v1), (1, .int (-5)), (0, .ref (q.2.2.1 0))]) d_M_changeOf_9 rfl (by decide) rfl ?_
  refine R_sub [2, 1, 0, 3] rfl ?_
  refine W_M_changeOf_10 C ?_ fu _ _ _ _
  intro x23 μ24
  refine R_iload_n C 0 d_M_changeOf_78 rfl rfl ?_
  exact R_iret C rfl d_M_changeOf_79
theorem c_M_changeOf {q : QT} (hg : GOk sdM q) {μ : Mm} {ν : Ml} {o : Int32 × Mm} (ho : F_M_changeOf μ = some o) : Ct sdM q y_M_changeOf prog_14_method_69_code 6 (some (FieldType.int)) 7 [.ref (q.2.2.1 0)] μ ν ((φIm ν) o).1 ((φIm ν) o).2.1 ((φIm ν) o).2.2 := Ct_of rfl hg (fun z C => w_M_changeOf C) (Nat.le_of_ble_eq_true rfl) ho
def L_M_ends_18 (f6 : Int32) (k : Mm → Option (Int32 × Mm)) : Nat → Int32 → Mm → Option (Int32 × Mm)
  | 0, _, _ => none
  | n + 1, s5, μ7 => (if (μ7 0 37) ≤ s5 then k μ7 else (rdI (μ7 39) 10 s5).bind fun v8 => jn (α := Mm) (fun K29 => (if v8 = 0 then (F_M_goWeek μ7).bind fun μ9 => K29 μ9 else K29 μ7)) (fun (μ11 : Mm) => (rdI (μ11 39) 10 s5).bind fun v12 => (F_M_in v12 1 2).bind fun v13 => jn (α := Mm) (fun K28 => (if v13 = 0 then K28 μ11 else (rdI (μ11 40) 10 s5).bind fun v15 => (rdI (μ11 39) 10 s5).bind fun v16 => jn (α := Int32) (fun K20 => (if v16 = 1 then K20 1 else K20 0)) (fun (j17 : Int32) => (F_M_goes v15 j17 μ11).bind fun μ18 => K28 μ18))) (fun (μ21 : Mm) => (rdI (μ21 39) 10 s5).bind fun v22 => jn (α := Mm) (fun K27 => (if v22 = 3 then (rdI (μ21 40) 10 s5).bind fun v23 => (F_M_moves 0 v23 μ21).bind fun μ24 => K27 μ24 else K27 μ21)) (fun (μ26 : Mm) => L_M_ends_18 f6 k n (s5 + 1) μ26))))
def F_M_ends (a1 : Int32) (μ : Mm) : Option (Int32 × Mm) := (F_M_in a1 0 1).bind fun v1 => (if v1 = 0 then some ((-1), μ) else (F_M_save μ).bind fun μ3 => L_M_ends_18 a1 (fun (μ30 : Mm) => jn (α := Int32 × Mm) (fun K40 => (if a1 = 0 then (F_M_noise μ30).bind fun p_ => match p_ with | (v33, μ34) => K40 (v33, μ34) else (F_M_allKnow μ30).bind fun v31 => K40 (v31, μ30))) (fun (p_ : Int32 × Mm) => match p_ with | (j36, μ37) => (F_M_putBack μ37).bind fun μ38 => some (j36, μ38))) fu 0 μ3)
theorem d_M_ends_0 : decode prog_14_method_86_code 0 = .ok (.aload_n 0, 1) := by decide +kernel
theorem d_M_ends_1 : decode prog_14_method_86_code 1 = .ok (.iload_n 1, 1) := by decide +kernel
theorem d_M_ends_2 : decode prog_14_method_86_code 2 = .ok (.iconst 0, 1) := by decide +kernel
theorem d_M_ends_3 : decode prog_14_method_86_code 3 = .ok (.iconst 1, 1) := by decide +kernel
theorem d_M_ends_4 : decode prog_14_method_86_code 4 = .ok (.invokevirtual 225, 3) := by decide +kernel
theorem d_M_ends_12 : decode prog_14_method_86_code 12 = .ok (.aload_n 0, 1) := by decide +kernel
theorem d_M_ends_13 : decode prog_14_method_86_code 13 = .ok (.invokevirtual 371, 3) := by decide +kernel
theorem d_M_ends_16 : decode prog_14_method_86_code 16 = .ok (.iconst 0, 1) := by decide +kernel
theorem d_M_ends_17 : decode prog_14_method_86_code 17 = .ok (.istore_n 2, 1) := by decide +kernel
theorem d_M_ends_18 : decode prog_14_method_86_code 18 = .ok (.iload_n 2, 1) := by decide +kernel
theorem d_M_ends_19 : decode prog_14_method_86_code 19 = .ok (.aload_n 0, 1) := by decide +kernel
theorem d_M_ends_26 : decode prog_14_method_86_code 26 = .ok (.aload_n 0, 1) := by decide +kernel
theorem d_M_ends_30 : decode prog_14_method_86_code 30 = .ok (.iload_n 2, 1) := by decide +kernel
theorem d_M_ends_35 : decode prog_14_method_86_code 35 = .ok (.aload_n 0, 1) := by decide +kernel
theorem d_M_ends_36 : decode prog_14_method_86_code 36 = .ok (.invokevirtual 361, 3) := by decide +kernel
theorem d_M_ends_32 : decode prog_14_method_86_code 32 = .ok (.ifCond .ne 7, 3) := by decide +kernel
theorem d_M_ends_39 : decode prog_14_method_86_code 39 = .ok (.aload_n 0, 1) := by decide +kernel
theorem d_M_ends_40 : decode prog_14_method_86_code 40 = .ok (.aload_n 0, 1) := by decide +kernel
theorem d_M_ends_44 : decode prog_14_method_86_code 44 = .ok (.iload_n 2, 1) := by decide +kernel
theorem d_M_ends_46 : decode prog_14_method_86_code 46 = .ok (.iconst 1, 1) := by decide +kernel
theorem d_M_ends_47 : decode prog_14_method_86_code 47 = .ok (.iconst 2, 1) := by decide +kernel
theorem d_M_ends_48 : decode prog_14_method_86_code 48 = .ok (.invokevirtual 225, 3) := by decide +kernel
theorem d_M_ends_54 : decode prog_14_method_86_code 54 = .ok (.aload_n 0, 1) := by decide +kernel
theorem d_M_ends_55 : decode prog_14_method_86_code 55 = .ok (.aload_n 0, 1) := by decide +kernel
theorem d_M_ends_59 : decode prog_14_method_86_code 59 = .ok (.iload_n 2, 1) := by decide +kernel
theorem d_M_ends_61 : decode prog_14_method_86_code 61 = .ok (.aload_n 0, 1) := by decide +kernel
theorem d_M_ends_65 : decode prog_14_method_86_code 65 = .ok (.iload_n 2, 1) := by decide +kernel
theorem d_M_ends_67 : decode prog_14_method_86_code 67 = .ok (.iconst 1, 1) := by decide +kernel
theorem d_M_ends_75 : decode prog_14_method_86_code 75 = .ok (.iconst 0, 1) := by decide +kernel
theorem d_M_ends_71 : decode prog_14_method_86_code 71 = .ok (.iconst 1, 1) := by decide +kernel
theorem d_M_ends_72 : decode prog_14_method_86_code 72 = .ok (.goto 4, 3) := by decide +kernel
theorem d_M_ends_68 : decode prog_14_method_86_code 68 = .ok (.if_icmp .ne 7, 3) := by decide +kernel
theorem d_M_ends_76 : decode prog_14_method_86_code 76 = .ok (.invokevirtual 237, 3) := by decide +kernel
theorem d_M_ends_62 : decode prog_14_method_86_code 62 = .ok (.getfield 129, 3) := by decide +kernel
theorem d_M_ends_56 : decode prog_14_method_86_code 56 = .ok (.getfield 132, 3) := by decide +kernel
theorem d_M_ends_51 : decode prog_14_method_86_code 51 = .ok (.ifCond .eq 28, 3) := by decide +kernel
theorem d_M_ends_79 : decode prog_14_method_86_code 79 = .ok (.aload_n 0, 1) := by decide +kernel
theorem d_M_ends_83 : decode prog_14_method_86_code 83 = .ok (.iload_n 2, 1) := by decide +kernel
theorem d_M_ends_85 : decode prog_14_method_86_code 85 = .ok (.iconst 3, 1) := by decide +kernel
theorem d_M_ends_89 : decode prog_14_method_86_code 89 = .ok (.aload_n 0, 1) := by decide +kernel
theorem d_M_ends_90 : decode prog_14_method_86_code 90 = .ok (.iconst 0, 1) := by decide +kernel
theorem d_M_ends_91 : decode prog_14_method_86_code 91 = .ok (.aload_n 0, 1) := by decide +kernel
theorem d_M_ends_95 : decode prog_14_method_86_code 95 = .ok (.iload_n 2, 1) := by decide +kernel
theorem d_M_ends_97 : decode prog_14_method_86_code 97 = .ok (.invokevirtual 248, 3) := by decide +kernel
theorem d_M_ends_92 : decode prog_14_method_86_code 92 = .ok (.getfield 132, 3) := by decide +kernel
theorem d_M_ends_86 : decode prog_14_method_86_code 86 = .ok (.if_icmp .ne 14, 3) := by decide +kernel
theorem d_M_ends_100 : decode prog_14_method_86_code 100 = .ok (.iinc 2 1, 3) := by decide +kernel
theorem d_M_ends_103 : decode prog_14_method_86_code 103 = .ok (.goto (-85), 3) := by decide +kernel
theorem d_M_ends_80 : decode prog_14_method_86_code 80 = .ok (.getfield 129, 3) := by decide +kernel
theorem d_M_ends_41 : decode prog_14_method_86_code 41 = .ok (.getfield 129, 3) := by decide +kernel
theorem d_M_ends_27 : decode prog_14_method_86_code 27 = .ok (.getfield 129, 3) := by decide +kernel
theorem d_M_ends_23 : decode prog_14_method_86_code 23 = .ok (.if_icmp .ge 83, 3) := by decide +kernel
theorem d_M_ends_20 : decode prog_14_method_86_code 20 = .ok (.getfield 123, 3) := by decide +kernel
theorem d_M_ends_31 : decode prog_14_method_86_code 31 = .ok (.iaload, 1) := by decide +kernel
theorem d_M_ends_45 : decode prog_14_method_86_code 45 = .ok (.iaload, 1) := by decide +kernel
theorem d_M_ends_84 : decode prog_14_method_86_code 84 = .ok (.iaload, 1) := by decide +kernel
theorem d_M_ends_96 : decode prog_14_method_86_code 96 = .ok (.iaload, 1) := by decide +kernel
theorem d_M_ends_60 : decode prog_14_method_86_code 60 = .ok (.iaload, 1) := by decide +kernel
theorem d_M_ends_66 : decode prog_14_method_86_code 66 = .ok (.iaload, 1) := by decide +kernel
set_option maxRecDepth 10000 in
set_option maxHeartbeats 4000000 in
theorem W_M_ends_18 {q : QT} {z : ZT} {ν : Ml} {f6 : Int32} {k : Mm → Option (Int32 × Mm)} (C : Ctx sdM q z prog_14_method_86_code "BesideTomModel" 3 7 (some (FieldType.int))) (hk : ∀ (me_ : Mm), R sdM q z 3 (φIm ν) (k me_) me_ ν 106 [(0, .ref (q.2.2.1 0)), (1, .int f6)] []) : ∀ (n : Nat) (s5 : Int32) (μ7 : Mm), R sdM q z 3 (φIm ν) (L_M_ends_18 f6 k n s5 μ7) μ7 ν 18 [(2, .int s5), (0, .ref (q.2.2.1 0)), (1, .int f6)] [] := by
  intro n
  induction n with
  | zero =>
    intros
    exact R_none
  | succ n ih =>
    intro s5 μ7
    rw [L_M_ends_18]
    refine R_iload_n C 0 d_M_ends_18 rfl rfl ?_
    refine R_aload_n C 1 d_M_ends_19 rfl rfl ?_
    refine gf_M_terms C fl_M_123 d_M_ends_20 ?_
    refine R_icmp_ge C d_M_ends_23 (tgt := 106) (by decide) ?_ ?_
    · skip
      exact R_sub [1, 2] rfl (hk μ7)
    · skip
      refine R_aload_n C 1 d_M_ends_26 rfl rfl ?_
      refine gf_M_termWhat C fl_M_129 d_M_ends_27 ?_
      refine R_iload_n C 0 d_M_ends_30 rfl rfl ?_
      refine R_iald C mm_39 (mc_39 q _ _) d_M_ends_31 (fun v8 => ?_)
      refine R_jn (fun K29 => ∀ (μ11 : Mm), R sdM q z 3 (φIm ν) (K29 μ11) μ11 ν 39 [(0, .ref (q.2.2.1 0)), (1, .int f6), (2, .int s5)] []) ?_ (fun K29 hK29 => ?_)
      · intro μ11
        refine R_aload_n C 0 d_M_ends_39 rfl rfl ?_
        refine R_aload_n C 0 d_M_ends_40 rfl rfl ?_
        refine gf_M_termWhat C fl_M_129 d_M_ends_41 ?_
        refine R_iload_n C 2 d_M_ends_44 rfl rfl ?_
        refine R_iald C mm_39 (mc_39 q _ _) d_M_ends_45 (fun v12 => ?_)
        refine R_iconst C d_M_ends_46 (v := 1) (by decide +kernel) ?_
        refine R_iconst C d_M_ends_47 (v := 2) (by decide +kernel) ?_
        refine R_bind (fun v13 h14 => ?_)
        refine R_callV C mm_0 (mc_0 q _ _) rfl cf_M_in rfl ml_M_225 im_M_in sl_M_M_in_M_in (c_M_in (gk C) h14) (by decide) (by decide) rfl rfl (Nat.le_of_ble_eq_true rfl) d_M_ends_48 ?_
        refine R_jn (fun K28 => ∀ (μ21 : Mm), R sdM q z 3 (φIm ν) (K28 μ21) μ21 ν 79 [(0, .ref (q.2.2.1 0)), (1, .int f6), (2, .int s5)] []) ?_ (fun K28 hK28 => ?_)
        · intro μ21
          refine R_aload_n C 0 d_M_ends_79 rfl rfl ?_
          refine gf_M_termWhat C fl_M_129 d_M_ends_80 ?_
          refine R_iload_n C 2 d_M_ends_83 rfl rfl ?_
          refine R_iald C mm_39 (mc_39 q _ _) d_M_ends_84 (fun v22 => ?_)
          refine R_iconst C d_M_ends_85 (v := 3) (by decide +kernel) ?_
          refine R_jn (fun K27 => ∀ (μ26 : Mm), R sdM q z 3 (φIm ν) (K27 μ26) μ26 ν 100 [(0, .ref (q.2.2.1 0)), (1, .int f6), (2, .int s5)] []) ?_ (fun K27 hK27 => ?_)
          · intro μ26
            refine R_iinc C 2 d_M_ends_100 rfl (iinc_v _ (v := 1) (by decide +kernel)) (lv' := [(2, .int (s5 + 1)), (0, .ref (q.2.2.1 0)), (1, .int f6)]) (by decide) rfl ?_
            refine R_goto C d_M_ends_103 (tgt := 18) (by decide) ?_
            exact R_sub [0, 1, 2] rfl (ih (s5 + 1) μ26)
          · skip
            refine R_icmp_ne C d_M_ends_86 (tgt := 100) (by decide) ?_ ?_
            · skip
              exact R_sub [0, 1, 2] rfl (hK27 μ21)
            · skip
              refine R_aload_n C 0 d_M_ends_89 rfl rfl ?_
              refine R_iconst C d_M_ends_90 (v := 0) (by decide +kernel) ?_
              refine R_aload_n C 0 d_M_ends_91 rfl rfl ?_
              refine gf_M_termNumber C fl_M_132 d_M_ends_92 ?_
              refine R_iload_n C 2 d_M_ends_95 rfl rfl ?_
              refine R_iald C mm_40 (mc_40 q _ _) d_M_ends_96 (fun v23 => ?_)
              refine R_bind (fun μ24 h25 => ?_)
              refine R_callV C mm_0 (mc_0 q _ _) rfl cf_M_moves rfl ml_M_248 im_M_moves sl_M_M_moves_M_moves (c_M_moves (gk C) h25) (by decide) (by decide) rfl rfl (Nat.le_of_ble_eq_true rfl) d_M_ends_97 ?_
              exact R_sub [0, 1, 2] rfl (hK27 μ24)
        · skip
          refine R_if_eq C d_M_ends_51 (tgt := 79) (by decide) ?_ ?_
          · skip
            exact R_sub [0, 1, 2] rfl (hK28 μ11)
          · skip
            refine R_aload_n C 0 d_M_ends_54 rfl rfl ?_
            refine R_aload_n C 0 d_M_ends_55 rfl rfl ?_
            refine gf_M_termNumber C fl_M_132 d_M_ends_56 ?_
            refine R_iload_n C 2 d_M_ends_59 rfl rfl ?_
            refine R_iald C mm_40 (mc_40 q _ _) d_M_ends_60 (fun v15 => ?_)
            refine R_aload_n C 0 d_M_ends_61 rfl rfl ?_
            refine gf_M_termWhat C fl_M_129 d_M_ends_62 ?_
            refine R_iload_n C 2 d_M_ends_65 rfl rfl ?_
            refine R_iald C mm_39 (mc_39 q _ _) d_M_ends_66 (fun v16 => ?_)
            refine R_iconst C d_M_ends_67 (v := 1) (by decide +kernel) ?_
            refine R_jn (fun K20 => ∀ (j17 : Int32), R sdM q z 3 (φIm ν) (K20 j17) μ11 ν 76 [(0, .ref (q.2.2.1 0)), (1, .int f6), (2, .int s5)] [.int j17, .int v15, .ref (q.2.2.1 0)]) ?_ (fun K20 hK20 => ?_)
            · intro j17
              refine R_bind (fun μ18 h19 => ?_)
              refine R_callV C mm_0 (mc_0 q _ _) rfl cf_M_goes rfl ml_M_237 im_M_goes sl_M_M_goes_M_goes (c_M_goes (gk C) h19) (by decide) (by decide) rfl rfl (Nat.le_of_ble_eq_true rfl) d_M_ends_76 ?_
              exact R_sub [0, 1, 2] rfl (hK28 μ18)
            · skip
              refine R_icmp_ne C d_M_ends_68 (tgt := 75) (by decide) ?_ ?_
              · skip
                refine R_iconst C d_M_ends_75 (v := 0) (by decide +kernel) ?_
                exact R_sub [0, 1, 2] rfl (hK20 0)
              · skip
                refine R_iconst C d_M_ends_71 (v := 1) (by decide +kernel) ?_
                refine R_goto C d_M_ends_72 (tgt := 76) (by decide) ?_
                exact R_sub [0, 1, 2] rfl (hK20 1)
      · skip
        refine R_if_ne C d_M_ends_32 (tgt := 39) (by decide) ?_ ?_
        · skip
          exact R_sub [1, 2, 0] rfl (hK29 μ7)
        · skip
          refine R_aload_n C 1 d_M_ends_35 rfl rfl ?_
          refine R_bind (fun μ9 h10 => ?_)
          refine R_callV C mm_0 (mc_0 q _ _) rfl cf_M_goWeek rfl ml_M_361 im_M_goWeek sl_M_M_goWeek_M_goWeek (c_M_goWeek (gk C) h10) (by decide) (by decide) rfl rfl (Nat.le_of_ble_eq_true rfl) d_M_ends_36 ?_
          exact R_sub [1, 2, 0] rfl (hK29 μ9)
theorem d_M_ends_106 : decode prog_14_method_86_code 106 = .ok (.iload_n 1, 1) := by decide +kernel
theorem d_M_ends_117 : decode prog_14_method_86_code 117 = .ok (.aload_n 0, 1) := by decide +kernel
theorem d_M_ends_118 : decode prog_14_method_86_code 118 = .ok (.invokevirtual 352, 3) := by decide +kernel
theorem d_M_ends_110 : decode prog_14_method_86_code 110 = .ok (.aload_n 0, 1) := by decide +kernel
theorem d_M_ends_111 : decode prog_14_method_86_code 111 = .ok (.invokevirtual 251, 3) := by decide +kernel
theorem d_M_ends_114 : decode prog_14_method_86_code 114 = .ok (.goto 7, 3) := by decide +kernel
theorem d_M_ends_107 : decode prog_14_method_86_code 107 = .ok (.ifCond .ne 10, 3) := by decide +kernel
theorem d_M_ends_121 : decode prog_14_method_86_code 121 = .ok (.istore_n 2, 1) := by decide +kernel
theorem d_M_ends_122 : decode prog_14_method_86_code 122 = .ok (.aload_n 0, 1) := by decide +kernel
theorem d_M_ends_123 : decode prog_14_method_86_code 123 = .ok (.invokevirtual 374, 3) := by decide +kernel
theorem d_M_ends_126 : decode prog_14_method_86_code 126 = .ok (.iload_n 2, 1) := by decide +kernel
theorem d_M_ends_127 : decode prog_14_method_86_code 127 = .ok (.ireturn, 1) := by decide +kernel
theorem d_M_ends_10 : decode prog_14_method_86_code 10 = .ok (.iconst (-1), 1) := by decide +kernel
theorem d_M_ends_11 : decode prog_14_method_86_code 11 = .ok (.ireturn, 1) := by decide +kernel
theorem d_M_ends_7 : decode prog_14_method_86_code 7 = .ok (.ifCond .ne 5, 3) := by decide +kernel
set_option maxRecDepth 10000 in
set_option maxHeartbeats 4000000 in
theorem w_M_ends {q : QT} {z : ZT} {a1 : Int32} {μ : Mm} {ν : Ml} (C : Ctx sdM q z prog_14_method_86_code "BesideTomModel" 3 7 (some (FieldType.int))) : R sdM q z 3 (φIm ν) (F_M_ends a1 μ) μ ν 0 [(0, .ref (q.2.2.1 0)), (1, .int a1)] [] := by
  unfold F_M_ends
  refine R_aload_n C 0 d_M_ends_0 rfl rfl ?_
  refine R_iload_n C 1 d_M_ends_1 rfl rfl ?_
  refine R_iconst C d_M_ends_2 (v := 0) (by decide +kernel) ?_
  refine R_iconst C d_M_ends_3 (v := 1) (by decide +kernel) ?_
  refine R_bind (fun v1 h2 => ?_)
  refine R_callV C mm_0 (mc_0 q _ _) rfl cf_M_in rfl ml_M_225 im_M_in sl_M_M_in_M_in (c_M_in (gk C) h2) (by decide) (by decide) rfl rfl (Nat.le_of_ble_eq_true rfl) d_M_ends_4 ?_
  refine R_if_ne C d_M_ends_7 (tgt := 12) (by decide) ?_ ?_
  · skip
    refine R_aload_n C 0 d_M_ends_12 rfl rfl ?_
    refine R_bind (fun μ3 h4 => ?_)
    refine R_callV C mm_0 (mc_0 q _ _) rfl cf_M_save rfl ml_M_371 im_M_save sl_M_M_save_M_save (c_M_save (gk C) h4) (by decide) (by decide) rfl rfl (Nat.le_of_ble_eq_true rfl) d_M_ends_13 ?_
    refine R_iconst C d_M_ends_16 (v := 0) (by decide +kernel) ?_
    refine R_istore_n C (lv' := [(2, .int 0), (0, .ref (q.2.2.1 0)), (1, .int a1)]) d_M_ends_17 rfl (by decide) rfl ?_
    refine R_sub [0, 1, 2] rfl ?_
    refine W_M_ends_18 C ?_ fu _ _
    intro μ30
    refine R_iload_n C 1 d_M_ends_106 rfl rfl ?_
    refine R_jn (fun K40 => ∀ (j36 : Int32) (μ37 : Mm), R sdM q z 3 (φIm ν) (K40 (j36, μ37)) μ37 ν 121 [(0, .ref (q.2.2.1 0))] [.int j36]) ?_ (fun K40 hK40 => ?_)
    · intro j36 μ37
      refine R_istore_n C (lv' := [(2, .int j36), (0, .ref (q.2.2.1 0))]) d_M_ends_121 rfl (by decide) rfl ?_
      refine R_aload_n C 1 d_M_ends_122 rfl rfl ?_
      refine R_bind (fun μ38 h39 => ?_)
      refine R_callV C mm_0 (mc_0 q _ _) rfl cf_M_putBack rfl ml_M_374 im_M_putBack sl_M_M_putBack_M_putBack (c_M_putBack (gk C) h39) (by decide) (by decide) rfl rfl (Nat.le_of_ble_eq_true rfl) d_M_ends_123 ?_
      refine R_iload_n C 0 d_M_ends_126 rfl rfl ?_
      exact R_iret C rfl d_M_ends_127
    · skip
      refine R_if_ne C d_M_ends_107 (tgt := 117) (by decide) ?_ ?_
      · skip
        refine R_aload_n C 0 d_M_ends_117 rfl rfl ?_
        refine R_bind (fun v31 h32 => ?_)
        refine R_callV C mm_0 (mc_0 q _ _) rfl cf_M_allKnow rfl ml_M_352 im_M_allKnow sl_M_M_allKnow_M_allKnow (c_M_allKnow (gk C) h32) (by decide) (by decide) rfl rfl (Nat.le_of_ble_eq_true rfl) d_M_ends_118 ?_
        exact R_sub [0] rfl (hK40 v31 μ30)
      · skip
        refine R_aload_n C 0 d_M_ends_110 rfl rfl ?_
        refine R_bind (fun r_ h35 => ?_)
        obtain ⟨v33, μ34⟩ := r_
        refine R_callV C mm_0 (mc_0 q _ _) rfl cf_M_noise rfl ml_M_251 im_M_noise sl_M_M_noise_M_noise (c_M_noise (gk C) h35) (by decide) (by decide) rfl rfl (Nat.le_of_ble_eq_true rfl) d_M_ends_111 ?_
        refine R_goto C d_M_ends_114 (tgt := 121) (by decide) ?_
        exact R_sub [0] rfl (hK40 v33 μ34)
  · skip
    refine R_iconst C d_M_ends_10 (v := (-1)) (by decide +kernel) ?_
    exact R_iret C rfl d_M_ends_11
theorem c_M_ends {q : QT} (hg : GOk sdM q) {a1 : Int32} {μ : Mm} {ν : Ml} {o : Int32 × Mm} (ho : F_M_ends a1 μ = some o) : Ct sdM q y_M_ends prog_14_method_86_code 3 (some (FieldType.int)) 7 [.ref (q.2.2.1 0), .int a1] μ ν ((φIm ν) o).1 ((φIm ν) o).2.1 ((φIm ν) o).2.2 := Ct_of rfl hg (fun z C => w_M_ends C) (Nat.le_of_ble_eq_true rfl) ho
def L_M_few_34 (f11 : Int32) (f12 : Int32) (f13 : Int32) (k : Mm → Option (Int32 × Mm)) : Nat → Int32 → Mm → Option (Int32 × Mm)
  | 0, _, _ => none
  | n + 1, s10, μ14 => (if f12 ≤ s10 then k μ14 else (F_M_isQuietBy f13 s10 f11 μ14).bind fun p_ => match p_ with | (v15, μ16) => (if v15 = 0 then L_M_few_34 f11 f12 f13 k n (s10 + 1) μ16 else some (f13, μ16)))
def L_M_few_26 (f8 : Int32) (k : Mm → Option (Int32 × Mm)) : Nat → Int32 → Int32 → Mm → Option (Int32 × Mm)
  | 0, _, _, _ => none
  | n + 1, s6, s7, μ9 => (if 4 ≤ s7 then k μ9 else L_M_few_34 f8 s6 s7 (fun (μ18 : Mm) => L_M_few_26 f8 k n (s6 * 36) (s7 + 1) μ18) fu 0 μ9)
def F_M_few (a1 : Int32) (μ : Mm) : Option (Int32 × Mm) := (F_M_isNoise a1).bind fun v1 => (if v1 = 0 then some ((-2), μ) else (F_M_noise μ).bind fun p_ => match p_ with | (v3, μ4) => (if a1 < v3 then L_M_few_26 a1 (fun (μ19 : Mm) => some ((-5), μ19)) fu 36 1 μ4 else some (0, μ4)))
theorem d_M_few_0 : decode prog_14_method_76_code 0 = .ok (.aload_n 0, 1) := by decide +kernel
theorem d_M_few_1 : decode prog_14_method_76_code 1 = .ok (.iload_n 1, 1) := by decide +kernel
theorem d_M_few_2 : decode prog_14_method_76_code 2 = .ok (.invokevirtual 377, 3) := by decide +kernel
theorem d_M_few_11 : decode prog_14_method_76_code 11 = .ok (.aload_n 0, 1) := by decide +kernel
theorem d_M_few_12 : decode prog_14_method_76_code 12 = .ok (.invokevirtual 251, 3) := by decide +kernel
theorem d_M_few_15 : decode prog_14_method_76_code 15 = .ok (.iload_n 1, 1) := by decide +kernel
theorem d_M_few_21 : decode prog_14_method_76_code 21 = .ok (.bipush 36, 2) := by decide +kernel
theorem d_M_few_23 : decode prog_14_method_76_code 23 = .ok (.istore_n 2, 1) := by decide +kernel
theorem d_M_few_24 : decode prog_14_method_76_code 24 = .ok (.iconst 1, 1) := by decide +kernel
theorem d_M_few_25 : decode prog_14_method_76_code 25 = .ok (.istore_n 3, 1) := by decide +kernel
theorem d_M_few_26 : decode prog_14_method_76_code 26 = .ok (.iload_n 3, 1) := by decide +kernel
theorem d_M_few_27 : decode prog_14_method_76_code 27 = .ok (.iconst 4, 1) := by decide +kernel
theorem d_M_few_31 : decode prog_14_method_76_code 31 = .ok (.iconst 0, 1) := by decide +kernel
theorem d_M_few_32 : decode prog_14_method_76_code 32 = .ok (.istore 4, 2) := by decide +kernel
theorem d_M_few_34 : decode prog_14_method_76_code 34 = .ok (.iload 4, 2) := by decide +kernel
theorem d_M_few_36 : decode prog_14_method_76_code 36 = .ok (.iload_n 2, 1) := by decide +kernel
theorem d_M_few_40 : decode prog_14_method_76_code 40 = .ok (.aload_n 0, 1) := by decide +kernel
theorem d_M_few_41 : decode prog_14_method_76_code 41 = .ok (.iload_n 3, 1) := by decide +kernel
theorem d_M_few_42 : decode prog_14_method_76_code 42 = .ok (.iload 4, 2) := by decide +kernel
theorem d_M_few_44 : decode prog_14_method_76_code 44 = .ok (.iload_n 1, 1) := by decide +kernel
theorem d_M_few_45 : decode prog_14_method_76_code 45 = .ok (.invokevirtual 405, 3) := by decide +kernel
theorem d_M_few_53 : decode prog_14_method_76_code 53 = .ok (.iinc 4 1, 3) := by decide +kernel
theorem d_M_few_56 : decode prog_14_method_76_code 56 = .ok (.goto (-22), 3) := by decide +kernel
theorem d_M_few_51 : decode prog_14_method_76_code 51 = .ok (.iload_n 3, 1) := by decide +kernel
theorem d_M_few_52 : decode prog_14_method_76_code 52 = .ok (.ireturn, 1) := by decide +kernel
theorem d_M_few_48 : decode prog_14_method_76_code 48 = .ok (.ifCond .eq 5, 3) := by decide +kernel
theorem d_M_few_37 : decode prog_14_method_76_code 37 = .ok (.if_icmp .ge 22, 3) := by decide +kernel
set_option maxRecDepth 10000 in
set_option maxHeartbeats 4000000 in
theorem W_M_few_34 {q : QT} {z : ZT} {ν : Ml} {f11 : Int32} {f12 : Int32} {f13 : Int32} {k : Mm → Option (Int32 × Mm)} (C : Ctx sdM q z prog_14_method_76_code "BesideTomModel" 5 7 (some (FieldType.int))) (hk : ∀ (me_ : Mm), R sdM q z 5 (φIm ν) (k me_) me_ ν 59 [(0, .ref (q.2.2.1 0)), (1, .int f11), (2, .int f12), (3, .int f13)] []) : ∀ (n : Nat) (s10 : Int32) (μ14 : Mm), R sdM q z 5 (φIm ν) (L_M_few_34 f11 f12 f13 k n s10 μ14) μ14 ν 34 [(4, .int s10), (0, .ref (q.2.2.1 0)), (1, .int f11), (2, .int f12), (3, .int f13)] [] := by
  intro n
  induction n with
  | zero =>
    intros
    exact R_none
  | succ n ih =>
    intro s10 μ14
    rw [L_M_few_34]
    refine R_iload C 0 d_M_few_34 rfl ?_
    refine R_iload_n C 3 d_M_few_36 rfl rfl ?_
    refine R_icmp_ge C d_M_few_37 (tgt := 59) (by decide) ?_ ?_
    · skip
      exact R_sub [1, 2, 3, 4] rfl (hk μ14)
    · skip
      refine R_aload_n C 1 d_M_few_40 rfl rfl ?_
      refine R_iload_n C 4 d_M_few_41 rfl rfl ?_
      refine R_iload C 0 d_M_few_42 rfl ?_
      refine R_iload_n C 2 d_M_few_44 rfl rfl ?_
      refine R_bind (fun r_ h17 => ?_)
      obtain ⟨v15, μ16⟩ := r_
      refine R_callV C mm_0 (mc_0 q _ _) rfl cf_M_isQuietBy rfl ml_M_405 im_M_isQuietBy sl_M_M_isQuietBy_M_isQuietBy (c_M_isQuietBy (gk C) h17) (by decide) (by decide) rfl rfl (Nat.le_of_ble_eq_true rfl) d_M_few_45 ?_
      refine R_if_eq C d_M_few_48 (tgt := 53) (by decide) ?_ ?_
      · skip
        refine R_iinc C 0 d_M_few_53 rfl (iinc_v _ (v := 1) (by decide +kernel)) (lv' := [(4, .int (s10 + 1)), (0, .ref (q.2.2.1 0)), (1, .int f11), (2, .int f12), (3, .int f13)]) (by decide) rfl ?_
        refine R_goto C d_M_few_56 (tgt := 34) (by decide) ?_
        exact R_sub [0, 1, 2, 3, 4] rfl (ih (s10 + 1) μ16)
      · skip
        refine R_iload_n C 4 d_M_few_51 rfl rfl ?_
        exact R_iret C rfl d_M_few_52
theorem d_M_few_59 : decode prog_14_method_76_code 59 = .ok (.iload_n 2, 1) := by decide +kernel
theorem d_M_few_60 : decode prog_14_method_76_code 60 = .ok (.bipush 36, 2) := by decide +kernel
theorem d_M_few_62 : decode prog_14_method_76_code 62 = .ok (.imul, 1) := by decide +kernel
theorem d_M_few_63 : decode prog_14_method_76_code 63 = .ok (.istore_n 2, 1) := by decide +kernel
theorem d_M_few_64 : decode prog_14_method_76_code 64 = .ok (.iinc 3 1, 3) := by decide +kernel
theorem d_M_few_67 : decode prog_14_method_76_code 67 = .ok (.goto (-41), 3) := by decide +kernel
theorem d_M_few_28 : decode prog_14_method_76_code 28 = .ok (.if_icmp .ge 42, 3) := by decide +kernel
set_option maxRecDepth 10000 in
set_option maxHeartbeats 4000000 in
theorem W_M_few_26 {q : QT} {z : ZT} {ν : Ml} {f8 : Int32} {k : Mm → Option (Int32 × Mm)} (C : Ctx sdM q z prog_14_method_76_code "BesideTomModel" 5 7 (some (FieldType.int))) (hk : ∀ (me_ : Mm), R sdM q z 5 (φIm ν) (k me_) me_ ν 70 [] []) : ∀ (n : Nat) (s6 : Int32) (s7 : Int32) (μ9 : Mm), R sdM q z 5 (φIm ν) (L_M_few_26 f8 k n s6 s7 μ9) μ9 ν 26 [(2, .int s6), (3, .int s7), (0, .ref (q.2.2.1 0)), (1, .int f8)] [] := by
  intro n
  induction n with
  | zero =>
    intros
    exact R_none
  | succ n ih =>
    intro s6 s7 μ9
    rw [L_M_few_26]
    refine R_iload_n C 1 d_M_few_26 rfl rfl ?_
    refine R_iconst C d_M_few_27 (v := 4) (by decide +kernel) ?_
    refine R_icmp_ge C d_M_few_28 (tgt := 70) (by decide) ?_ ?_
    · skip
      exact R_sub [] rfl (hk μ9)
    · skip
      refine R_iconst C d_M_few_31 (v := 0) (by decide +kernel) ?_
      refine R_istore C (lv' := [(4, .int 0), (2, .int s6), (3, .int s7), (0, .ref (q.2.2.1 0)), (1, .int f8)]) d_M_few_32 (by decide) rfl ?_
      refine R_sub [0, 3, 4, 1, 2] rfl ?_
      refine W_M_few_34 C ?_ fu _ _
      intro μ18
      refine R_iload_n C 2 d_M_few_59 rfl rfl ?_
      refine R_bipush C d_M_few_60 (v := 36) (by decide +kernel) ?_
      refine R_imul C d_M_few_62 ?_
      refine R_istore_n C (lv' := [(2, .int (s6 * 36)), (0, .ref (q.2.2.1 0)), (1, .int f8), (3, .int s7)]) d_M_few_63 rfl (by decide) rfl ?_
      refine R_iinc C 3 d_M_few_64 rfl (iinc_v _ (v := 1) (by decide +kernel)) (lv' := [(3, .int (s7 + 1)), (2, .int (s6 * 36)), (0, .ref (q.2.2.1 0)), (1, .int f8)]) (by decide) rfl ?_
      refine R_goto C d_M_few_67 (tgt := 26) (by decide) ?_
      exact R_sub [1, 0, 2, 3] rfl (ih (s6 * 36) (s7 + 1) μ18)
theorem d_M_few_70 : decode prog_14_method_76_code 70 = .ok (.bipush (-5), 2) := by decide +kernel
theorem d_M_few_72 : decode prog_14_method_76_code 72 = .ok (.ireturn, 1) := by decide +kernel
theorem d_M_few_19 : decode prog_14_method_76_code 19 = .ok (.iconst 0, 1) := by decide +kernel
theorem d_M_few_20 : decode prog_14_method_76_code 20 = .ok (.ireturn, 1) := by decide +kernel
theorem d_M_few_16 : decode prog_14_method_76_code 16 = .ok (.if_icmp .gt 5, 3) := by decide +kernel
theorem d_M_few_8 : decode prog_14_method_76_code 8 = .ok (.bipush (-2), 2) := by decide +kernel
theorem d_M_few_10 : decode prog_14_method_76_code 10 = .ok (.ireturn, 1) := by decide +kernel
theorem d_M_few_5 : decode prog_14_method_76_code 5 = .ok (.ifCond .ne 6, 3) := by decide +kernel
set_option maxRecDepth 10000 in
set_option maxHeartbeats 4000000 in
theorem w_M_few {q : QT} {z : ZT} {a1 : Int32} {μ : Mm} {ν : Ml} (C : Ctx sdM q z prog_14_method_76_code "BesideTomModel" 5 7 (some (FieldType.int))) : R sdM q z 5 (φIm ν) (F_M_few a1 μ) μ ν 0 [(0, .ref (q.2.2.1 0)), (1, .int a1)] [] := by
  unfold F_M_few
  refine R_aload_n C 0 d_M_few_0 rfl rfl ?_
  refine R_iload_n C 1 d_M_few_1 rfl rfl ?_
  refine R_bind (fun v1 h2 => ?_)
  refine R_callV C mm_0 (mc_0 q _ _) rfl cf_M_isNoise rfl ml_M_377 im_M_isNoise sl_M_M_isNoise_M_isNoise (c_M_isNoise (gk C) h2) (by decide) (by decide) rfl rfl (Nat.le_of_ble_eq_true rfl) d_M_few_2 ?_
  refine R_if_ne C d_M_few_5 (tgt := 11) (by decide) ?_ ?_
  · skip
    refine R_aload_n C 0 d_M_few_11 rfl rfl ?_
    refine R_bind (fun r_ h5 => ?_)
    obtain ⟨v3, μ4⟩ := r_
    refine R_callV C mm_0 (mc_0 q _ _) rfl cf_M_noise rfl ml_M_251 im_M_noise sl_M_M_noise_M_noise (c_M_noise (gk C) h5) (by decide) (by decide) rfl rfl (Nat.le_of_ble_eq_true rfl) d_M_few_12 ?_
    refine R_iload_n C 1 d_M_few_15 rfl rfl ?_
    refine R_icmp_gt C d_M_few_16 (tgt := 21) (by decide) ?_ ?_
    · skip
      refine R_bipush C d_M_few_21 (v := 36) (by decide +kernel) ?_
      refine R_istore_n C (lv' := [(2, .int 36), (0, .ref (q.2.2.1 0)), (1, .int a1)]) d_M_few_23 rfl (by decide) rfl ?_
      refine R_iconst C d_M_few_24 (v := 1) (by decide +kernel) ?_
      refine R_istore_n C (lv' := [(3, .int 1), (2, .int 36), (0, .ref (q.2.2.1 0)), (1, .int a1)]) d_M_few_25 rfl (by decide) rfl ?_
      refine R_sub [1, 0, 2, 3] rfl ?_
      refine W_M_few_26 C ?_ fu _ _ _
      intro μ19
      refine R_bipush C d_M_few_70 (v := (-5)) (by decide +kernel) ?_
      exact R_iret C rfl d_M_few_72
    · skip
      refine R_iconst C d_M_few_19 (v := 0) (by decide +kernel) ?_
      exact R_iret C rfl d_M_few_20
  · skip
    refine R_bipush C d_M_few_8 (v := (-2)) (by decide +kernel) ?_
    exact R_iret C rfl d_M_few_10
theorem c_M_few {q : QT} (hg : GOk sdM q) {a1 : Int32} {μ : Mm} {ν : Ml} {o : Int32 × Mm} (ho : F_M_few a1 μ = some o) : Ct sdM q y_M_few prog_14_method_76_code 5 (some (FieldType.int)) 7 [.ref (q.2.2.1 0), .int a1] μ ν ((φIm ν) o).1 ((φIm ν) o).2.1 ((φIm ν) o).2.2 := Ct_of rfl hg (fun z C => w_M_few C) (Nat.le_of_ble_eq_true rfl) ho
def L_M_goWeeks_2 (f2 : Int32) (k : Mm → Option (Mm)) : Nat → Int32 → Mm → Option (Mm)
  | 0, _, _ => none
  | n + 1, s1, μ3 => (if f2 ≤ s1 then k μ3 else (F_M_goWeek μ3).bind fun μ4 => L_M_goWeeks_2 f2 k n (s1 + 1) μ4)
def F_M_goWeeks (a1 : Int32) (μ : Mm) : Option (Mm) := L_M_goWeeks_2 a1 (fun (μ6 : Mm) => some μ6) fu 0 μ
theorem d_M_goWeeks_0 : decode prog_14_method_57_code 0 = .ok (.iconst 0, 1) := by decide +kernel
theorem d_M_goWeeks_1 : decode prog_14_method_57_code 1 = .ok (.istore_n 2, 1) := by decide +kernel
theorem d_M_goWeeks_2 : decode prog_14_method_57_code 2 = .ok (.iload_n 2, 1) := by decide +kernel
theorem d_M_goWeeks_3 : decode prog_14_method_57_code 3 = .ok (.iload_n 1, 1) := by decide +kernel
theorem d_M_goWeeks_7 : decode prog_14_method_57_code 7 = .ok (.aload_n 0, 1) := by decide +kernel
theorem d_M_goWeeks_8 : decode prog_14_method_57_code 8 = .ok (.invokevirtual 361, 3) := by decide +kernel
theorem d_M_goWeeks_11 : decode prog_14_method_57_code 11 = .ok (.iinc 2 1, 3) := by decide +kernel
theorem d_M_goWeeks_14 : decode prog_14_method_57_code 14 = .ok (.goto (-12), 3) := by decide +kernel
theorem d_M_goWeeks_4 : decode prog_14_method_57_code 4 = .ok (.if_icmp .ge 13, 3) := by decide +kernel
set_option maxRecDepth 10000 in
set_option maxHeartbeats 4000000 in
theorem W_M_goWeeks_2 {q : QT} {z : ZT} {ν : Ml} {f2 : Int32} {k : Mm → Option (Mm)} (C : Ctx sdM q z prog_14_method_57_code "BesideTomModel" 3 7 none) (hk : ∀ (me_ : Mm), R sdM q z 3 (φVm ν) (k me_) me_ ν 17 [] []) : ∀ (n : Nat) (s1 : Int32) (μ3 : Mm), R sdM q z 3 (φVm ν) (L_M_goWeeks_2 f2 k n s1 μ3) μ3 ν 2 [(2, .int s1), (0, .ref (q.2.2.1 0)), (1, .int f2)] [] := by
  intro n
  induction n with
  | zero =>
    intros
    exact R_none
  | succ n ih =>
    intro s1 μ3
    rw [L_M_goWeeks_2]
    refine R_iload_n C 0 d_M_goWeeks_2 rfl rfl ?_
    refine R_iload_n C 2 d_M_goWeeks_3 rfl rfl ?_
    refine R_icmp_ge C d_M_goWeeks_4 (tgt := 17) (by decide) ?_ ?_
    · skip
      exact R_sub [] rfl (hk μ3)
    · skip
      refine R_aload_n C 1 d_M_goWeeks_7 rfl rfl ?_
      refine R_bind (fun μ4 h5 => ?_)
      refine R_callV C mm_0 (mc_0 q _ _) rfl cf_M_goWeek rfl ml_M_361 im_M_goWeek sl_M_M_goWeek_M_goWeek (c_M_goWeek (gk C) h5) (by decide) (by decide) rfl rfl (Nat.le_of_ble_eq_true rfl) d_M_goWeeks_8 ?_
      refine R_iinc C 0 d_M_goWeeks_11 rfl (iinc_v _ (v := 1) (by decide +kernel)) (lv' := [(2, .int (s1 + 1)), (0, .ref (q.2.2.1 0)), (1, .int f2)]) (by decide) rfl ?_
      refine R_goto C d_M_goWeeks_14 (tgt := 2) (by decide) ?_
      exact R_sub [0, 1, 2] rfl (ih (s1 + 1) μ4)
theorem d_M_goWeeks_17 : decode prog_14_method_57_code 17 = .ok (.return_, 1) := by decide +kernel
set_option maxRecDepth 10000 in
set_option maxHeartbeats 4000000 in
theorem w_M_goWeeks {q : QT} {z : ZT} {a1 : Int32} {μ : Mm} {ν : Ml} (C : Ctx sdM q z prog_14_method_57_code "BesideTomModel" 3 7 none) : R sdM q z 3 (φVm ν) (F_M_goWeeks a1 μ) μ ν 0 [(0, .ref (q.2.2.1 0)), (1, .int a1)] [] := by
  unfold F_M_goWeeks
  refine R_iconst C d_M_goWeeks_0 (v := 0) (by decide +kernel) ?_
  refine R_istore_n C (lv' := [(2, .int 0), (0, .ref (q.2.2.1 0)), (1, .int a1)]) d_M_goWeeks_1 rfl (by decide) rfl ?_
  refine R_sub [0, 1, 2] rfl ?_
  refine W_M_goWeeks_2 C ?_ fu _ _
  intro μ6
  exact R_vret C rfl d_M_goWeeks_17
theorem c_M_goWeeks {q : QT} (hg : GOk sdM q) {a1 : Int32} {μ : Mm} {ν : Ml} {o : Mm} (ho : F_M_goWeeks a1 μ = some o) : Ct sdM q y_M_goWeeks prog_14_method_57_code 3 none 7 [.ref (q.2.2.1 0), .int a1] μ ν ((φVm ν) o).1 ((φVm ν) o).2.1 ((φVm ν) o).2.2 := Ct_of rfl hg (fun z C => w_M_goWeeks C) (Nat.le_of_ble_eq_true rfl) ho
def L_M_layBest_13 (f6 : Int32) (μ : Mm) (k : Int32 → Option (Int32 × Mm)) : Nat → Int32 → Int32 → Option (Int32 × Mm)
  | 0, _, _ => none
  | n + 1, s4, s5 => (if (μ 0 0) ≤ s5 then k s4 else L_M_layBest_13 f6 μ k n (s4 * 6) (s5 + 1))
def L_M_layBest_105 (f25 : Int32) (f26 : Int32) (f27 : Int32) (f28 : Int32) (k : Mm → Option (Int32 × Mm)) : Nat → Int32 → Mm → Option (Int32 × Mm)
  | 0, _, _ => none
  | n + 1, s24, μ29 => (if 6 ≤ s24 then k μ29 else (rdI (μ29 6) 6 s24).bind fun v30 => (wrI μ29 33 6 s24 v30).bind fun μ31 => L_M_layBest_105 f25 f26 f27 f28 k n (s24 + 1) μ31)
def L_M_layBest_38 (f10 : Int32) (f11 : Int32) (k : Int32 → Mm → Option (Int32 × Mm)) : Nat → Int32 → Int32 → Mm → Option (Int32 × Mm)
  | 0, _, _, _ => none
  | n + 1, s8, s9, μ12 => (if f11 ≤ s9 then k s8 μ12 else (F_M_layPlan s9 μ12).bind fun p_ => match p_ with | (v13, μ14) => jn (α := Int32 × Mm) (fun K37 => (if v13 = 0 then K37 (s8, μ14) else jn (α := Int32 × Mm) (fun K34 => (if f10 = 0 then (F_M_allLearn μ14).bind fun p_ => match p_ with | (v16, μ17) => K34 (v16, μ17) else (F_M_noise μ14).bind fun p_ => match p_ with | (v19, μ20) => K34 (v19, μ20))) (fun (p_ : Int32 × Mm) => match p_ with | (j22, μ23) => jn (α := Unit) (fun K33 => (if s8 < 0 then K33 () else (if f10 = 0 then (if s8 < j22 then K33 () else K37 (s8, μ23)) else (if j22 < s8 then K33 () else K37 (s8, μ23))))) (fun (_ : Unit) => L_M_layBest_105 f10 f11 j22 s9 (fun (μ32 : Mm) => K37 (j22, μ32)) fu 0 μ23)))) (fun (p_ : Int32 × Mm) => match p_ with | (j35, μ36) => L_M_layBest_38 f10 f11 k n j35 (s9 + 1) μ36))
def F_M_layBest (a1 : Int32) (μ : Mm) : Option (Int32 × Mm) := (F_M_save μ).bind fun μ1 => lt_ (up2 μ1 0 2 0) fun μ3 => L_M_layBest_13 a1 μ3 (fun (x7 : Int32) => L_M_layBest_38 a1 x7 (fun (x38 : Int32) (μ39 : Mm) => (F_M_putBack μ39).bind fun μ40 => some (x38, μ40)) fu (-5) 0 μ3) fu 1 0
theorem d_M_layBest_0 : decode prog_14_method_64_code 0 = .ok (.aload_n 0, 1) := by decide +kernel
theorem d_M_layBest_1 : decode prog_14_method_64_code 1 = .ok (.invokevirtual 371, 3) := by decide +kernel
theorem d_M_layBest_4 : decode prog_14_method_64_code 4 = .ok (.aload_n 0, 1) := by decide +kernel
theorem d_M_layBest_5 : decode prog_14_method_64_code 5 = .ok (.iconst 0, 1) := by decide +kernel
theorem d_M_layBest_9 : decode prog_14_method_64_code 9 = .ok (.iconst 1, 1) := by decide +kernel
theorem d_M_layBest_10 : decode prog_14_method_64_code 10 = .ok (.istore_n 2, 1) := by decide +kernel
theorem d_M_layBest_11 : decode prog_14_method_64_code 11 = .ok (.iconst 0, 1) := by decide +kernel
theorem d_M_layBest_12 : decode prog_14_method_64_code 12 = .ok (.istore_n 3, 1) := by decide +kernel
theorem d_M_layBest_13 : decode prog_14_method_64_code 13 = .ok (.iload_n 3, 1) := by decide +kernel
theorem d_M_layBest_14 : decode prog_14_method_64_code 14 = .ok (.aload_n 0, 1) := by decide +kernel
theorem d_M_layBest_21 : decode prog_14_method_64_code 21 = .ok (.iload_n 2, 1) := by decide +kernel
theorem d_M_layBest_22 : decode prog_14_method_64_code 22 = .ok (.bipush 6, 2) := by decide +kernel
theorem d_M_layBest_24 : decode prog_14_method_64_code 24 = .ok (.imul, 1) := by decide +kernel
theorem d_M_layBest_25 : decode prog_14_method_64_code 25 = .ok (.istore_n 2, 1) := by decide +kernel
theorem d_M_layBest_26 : decode prog_14_method_64_code 26 = .ok (.iinc 3 1, 3) := by decide +kernel
theorem d_M_layBest_29 : decode prog_14_method_64_code 29 = .ok (.goto (-16), 3) := by decide +kernel
theorem d_M_layBest_18 : decode prog_14_method_64_code 18 = .ok (.if_icmp .ge 14, 3) := by decide +kernel
theorem d_M_layBest_15 : decode prog_14_method_64_code 15 = .ok (.getfield 7, 3) := by decide +kernel
set_option maxRecDepth 10000 in
set_option maxHeartbeats 4000000 in
theorem W_M_layBest_13 {q : QT} {z : ZT} {μ : Mm} {ν : Ml} {f6 : Int32} {k : Int32 → Option (Int32 × Mm)} (C : Ctx sdM q z prog_14_method_64_code "BesideTomModel" 7 7 (some (FieldType.int))) (hk : ∀ (e0_ : Int32), R sdM q z 7 (φIm ν) (k e0_) μ ν 32 [(0, .ref (q.2.2.1 0)), (1, .int f6), (2, .int e0_)] []) : ∀ (n : Nat) (s4 : Int32) (s5 : Int32), R sdM q z 7 (φIm ν) (L_M_layBest_13 f6 μ k n s4 s5) μ ν 13 [(2, .int s4), (3, .int s5), (0, .ref (q.2.2.1 0)), (1, .int f6)] [] := by
  intro n
  induction n with
  | zero =>
    intros
    exact R_none
  | succ n ih =>
    intro s4 s5
    rw [L_M_layBest_13]
    refine R_iload_n C 1 d_M_layBest_13 rfl rfl ?_
    refine R_aload_n C 2 d_M_layBest_14 rfl rfl ?_
    refine gf_M_pupils C fl_M_7 d_M_layBest_15 ?_
    refine R_icmp_ge C d_M_layBest_18 (tgt := 32) (by decide) ?_ ?_
    · skip
      exact R_sub [2, 3, 0] rfl (hk s4)
    · skip
      refine R_iload_n C 0 d_M_layBest_21 rfl rfl ?_
      refine R_bipush C d_M_layBest_22 (v := 6) (by decide +kernel) ?_
      refine R_imul C d_M_layBest_24 ?_
      refine R_istore_n C (lv' := [(2, .int (s4 * 6)), (3, .int s5), (0, .ref (q.2.2.1 0)), (1, .int f6)]) d_M_layBest_25 rfl (by decide) rfl ?_
      refine R_iinc C 1 d_M_layBest_26 rfl (iinc_v _ (v := 1) (by decide +kernel)) (lv' := [(3, .int (s5 + 1)), (2, .int (s4 * 6)), (0, .ref (q.2.2.1 0)), (1, .int f6)]) (by decide) rfl ?_
      refine R_goto C d_M_layBest_29 (tgt := 13) (by decide) ?_
      exact R_sub [1, 0, 2, 3] rfl (ih (s4 * 6) (s5 + 1))
theorem d_M_layBest_32 : decode prog_14_method_64_code 32 = .ok (.bipush (-5), 2) := by decide +kernel
theorem d_M_layBest_34 : decode prog_14_method_64_code 34 = .ok (.istore_n 3, 1) := by decide +kernel
theorem d_M_layBest_35 : decode prog_14_method_64_code 35 = .ok (.iconst 0, 1) := by decide +kernel
theorem d_M_layBest_36 : decode prog_14_method_64_code 36 = .ok (.istore 4, 2) := by decide +kernel
theorem d_M_layBest_38 : decode prog_14_method_64_code 38 = .ok (.iload 4, 2) := by decide +kernel
theorem d_M_layBest_40 : decode prog_14_method_64_code 40 = .ok (.iload_n 2, 1) := by decide +kernel
theorem d_M_layBest_44 : decode prog_14_method_64_code 44 = .ok (.aload_n 0, 1) := by decide +kernel
theorem d_M_layBest_45 : decode prog_14_method_64_code 45 = .ok (.iload 4, 2) := by decide +kernel
theorem d_M_layBest_47 : decode prog_14_method_64_code 47 = .ok (.invokevirtual 380, 3) := by decide +kernel
theorem d_M_layBest_56 : decode prog_14_method_64_code 56 = .ok (.iload_n 1, 1) := by decide +kernel
theorem d_M_layBest_67 : decode prog_14_method_64_code 67 = .ok (.aload_n 0, 1) := by decide +kernel
theorem d_M_layBest_68 : decode prog_14_method_64_code 68 = .ok (.invokevirtual 355, 3) := by decide +kernel
theorem d_M_layBest_60 : decode prog_14_method_64_code 60 = .ok (.aload_n 0, 1) := by decide +kernel
theorem d_M_layBest_61 : decode prog_14_method_64_code 61 = .ok (.invokevirtual 251, 3) := by decide +kernel
theorem d_M_layBest_64 : decode prog_14_method_64_code 64 = .ok (.goto 7, 3) := by decide +kernel
theorem d_M_layBest_57 : decode prog_14_method_64_code 57 = .ok (.ifCond .eq 10, 3) := by decide +kernel
theorem d_M_layBest_71 : decode prog_14_method_64_code 71 = .ok (.istore 5, 2) := by decide +kernel
theorem d_M_layBest_73 : decode prog_14_method_64_code 73 = .ok (.iload_n 3, 1) := by decide +kernel
theorem d_M_layBest_77 : decode prog_14_method_64_code 77 = .ok (.iload_n 1, 1) := by decide +kernel
theorem d_M_layBest_90 : decode prog_14_method_64_code 90 = .ok (.iload 5, 2) := by decide +kernel
theorem d_M_layBest_92 : decode prog_14_method_64_code 92 = .ok (.iload_n 3, 1) := by decide +kernel
theorem d_M_layBest_96 : decode prog_14_method_64_code 96 = .ok (.goto 36, 3) := by decide +kernel
theorem d_M_layBest_93 : decode prog_14_method_64_code 93 = .ok (.if_icmp .gt 6, 3) := by decide +kernel
theorem d_M_layBest_81 : decode prog_14_method_64_code 81 = .ok (.iload 5, 2) := by decide +kernel
theorem d_M_layBest_83 : decode prog_14_method_64_code 83 = .ok (.iload_n 3, 1) := by decide +kernel
theorem d_M_layBest_87 : decode prog_14_method_64_code 87 = .ok (.goto 45, 3) := by decide +kernel
theorem d_M_layBest_84 : decode prog_14_method_64_code 84 = .ok (.if_icmp .lt 15, 3) := by decide +kernel
theorem d_M_layBest_78 : decode prog_14_method_64_code 78 = .ok (.ifCond .eq 12, 3) := by decide +kernel
theorem d_M_layBest_74 : decode prog_14_method_64_code 74 = .ok (.ifCond .lt 25, 3) := by decide +kernel
theorem d_M_layBest_99 : decode prog_14_method_64_code 99 = .ok (.iload 5, 2) := by decide +kernel
theorem d_M_layBest_101 : decode prog_14_method_64_code 101 = .ok (.istore_n 3, 1) := by decide +kernel
theorem d_M_layBest_102 : decode prog_14_method_64_code 102 = .ok (.iconst 0, 1) := by decide +kernel
theorem d_M_layBest_103 : decode prog_14_method_64_code 103 = .ok (.istore 6, 2) := by decide +kernel
theorem d_M_layBest_105 : decode prog_14_method_64_code 105 = .ok (.iload 6, 2) := by decide +kernel
theorem d_M_layBest_107 : decode prog_14_method_64_code 107 = .ok (.bipush 6, 2) := by decide +kernel
theorem d_M_layBest_112 : decode prog_14_method_64_code 112 = .ok (.aload_n 0, 1) := by decide +kernel
theorem d_M_layBest_116 : decode prog_14_method_64_code 116 = .ok (.iload 6, 2) := by decide +kernel
theorem d_M_layBest_118 : decode prog_14_method_64_code 118 = .ok (.aload_n 0, 1) := by decide +kernel
theorem d_M_layBest_122 : decode prog_14_method_64_code 122 = .ok (.iload 6, 2) := by decide +kernel
theorem d_M_layBest_126 : decode prog_14_method_64_code 126 = .ok (.iinc 6 1, 3) := by decide +kernel
theorem d_M_layBest_129 : decode prog_14_method_64_code 129 = .ok (.goto (-24), 3) := by decide +kernel
theorem d_M_layBest_125 : decode prog_14_method_64_code 125 = .ok (.iastore, 1) := by decide +kernel
theorem d_M_layBest_119 : decode prog_14_method_64_code 119 = .ok (.getfield 29, 3) := by decide +kernel
theorem d_M_layBest_113 : decode prog_14_method_64_code 113 = .ok (.getfield 111, 3) := by decide +kernel
theorem d_M_layBest_109 : decode prog_14_method_64_code 109 = .ok (.if_icmp .ge 23, 3) := by decide +kernel
theorem d_M_layBest_124 : decode prog_14_method_64_code 124 = .ok (.iaload, 1) := by decide +kernel
set_option maxRecDepth 10000 in
set_option maxHeartbeats 4000000 in
theorem W_M_layBest_105 {q : QT} {z : ZT} {ν : Ml} {f25 : Int32} {f26 : Int32} {f27 : Int32} {f28 : Int32} {k : Mm → Option (Int32 × Mm)} (C : Ctx sdM q z prog_14_method_64_code "BesideTomModel" 7 7 (some (FieldType.int))) (hk : ∀ (me_ : Mm), R sdM q z 7 (φIm ν) (k me_) me_ ν 132 [(0, .ref (q.2.2.1 0)), (1, .int f25), (2, .int f26), (3, .int f27), (4, .int f28)] []) : ∀ (n : Nat) (s24 : Int32) (μ29 : Mm), R sdM q z 7 (φIm ν) (L_M_layBest_105 f25 f26 f27 f28 k n s24 μ29) μ29 ν 105 [(6, .int s24), (0, .ref (q.2.2.1 0)), (1, .int f25), (2, .int f26), (3, .int f27), (4, .int f28)] [] := by
  intro n
  induction n with
  | zero =>
    intros
    exact R_none
  | succ n ih =>
    intro s24 μ29
    rw [L_M_layBest_105]
    refine R_iload C 0 d_M_layBest_105 rfl ?_
    refine R_bipush C d_M_layBest_107 (v := 6) (by decide +kernel) ?_
    refine R_icmp_ge C d_M_layBest_109 (tgt := 132) (by decide) ?_ ?_
    · skip
      exact R_sub [1, 2, 3, 4, 5] rfl (hk μ29)
    · skip
      refine R_aload_n C 1 d_M_layBest_112 rfl rfl ?_
      refine gf_M_bestDesk C fl_M_111 d_M_layBest_113 ?_
      refine R_iload C 0 d_M_layBest_116 rfl ?_
      refine R_aload_n C 1 d_M_layBest_118 rfl rfl ?_
      refine gf_M_desk C fl_M_29 d_M_layBest_119 ?_
      refine R_iload C 0 d_M_layBest_122 rfl ?_
      refine R_iald C mm_6 (mc_6 q _ _) d_M_layBest_124 (fun v30 => ?_)
      refine R_iast C mm_33 (fun h => mc_33 q h _) d_M_layBest_125 (fun μ31 => ?_)
      refine R_iinc C 0 d_M_layBest_126 rfl (iinc_v _ (v := 1) (by decide +kernel)) (lv' := [(6, .int (s24 + 1)), (0, .ref (q.2.2.1 0)), (1, .int f25), (2, .int f26), (3, .int f27), (4, .int f28)]) (by decide) rfl ?_
      refine R_goto C d_M_layBest_129 (tgt := 105) (by decide) ?_
      exact R_sub [0, 1, 2, 3, 4, 5] rfl (ih (s24 + 1) μ31)
theorem d_M_layBest_53 : decode prog_14_method_64_code 53 = .ok (.goto 79, 3) := by decide +kernel
theorem d_M_layBest_50 : decode prog_14_method_64_code 50 = .ok (.ifCond .ne 6, 3) := by decide +kernel
theorem d_M_layBest_132 : decode prog_14_method_64_code 132 = .ok (.iinc 4 1, 3) := by decide +kernel
theorem d_M_layBest_135 : decode prog_14_method_64_code 135 = .ok (.goto (-97), 3) := by decide +kernel
theorem d_M_layBest_41 : decode prog_14_method_64_code 41 = .ok (.if_icmp .ge 97, 3) := by decide +kernel
set_option maxRecDepth 10000 in
set_option maxHeartbeats 4000000 in
theorem W_M_layBest_38 {q : QT} {z : ZT} {ν : Ml} {f10 : Int32} {f11 : Int32} {k : Int32 → Mm → Option (Int32 × Mm)} (C : Ctx sdM q z prog_14_method_64_code "BesideTomModel" 7 7 (some (FieldType.int))) (hk : ∀ (e0_ : Int32) (me_ : Mm), R sdM q z 7 (φIm ν) (k e0_ me_) me_ ν 138 [(0, .ref (q.2.2.1 0)), (3, .int e0_)] []) : ∀ (n : Nat) (s8 : Int32) (s9 : Int32) (μ12 : Mm), R sdM q z 7 (φIm ν) (L_M_layBest_38 f10 f11 k n s8 s9 μ12) μ12 ν 38 [(3, .int s8), (4, .int s9), (0, .ref (q.2.2.1 0)), (1, .int f10), (2, .int f11)] [] := by
  intro n
  induction n with
  | zero =>
    intros
    exact R_none
  | succ n ih =>
    intro s8 s9 μ12
    rw [L_M_layBest_38]
    refine R_iload C 1 d_M_layBest_38 rfl ?_
    refine R_iload_n C 4 d_M_layBest_40 rfl rfl ?_
    refine R_icmp_ge C d_M_layBest_41 (tgt := 138) (by decide) ?_ ?_
    · skip
      exact R_sub [2, 0] rfl (hk s8 μ12)
    · skip
      refine R_aload_n C 2 d_M_layBest_44 rfl rfl ?_
      refine R_iload C 1 d_M_layBest_45 rfl ?_
      refine R_bind (fun r_ h15 => ?_)
      obtain ⟨v13, μ14⟩ := r_
      refine R_callV C mm_0 (mc_0 q _ _) rfl cf_M_layPlan rfl ml_M_380 im_M_layPlan sl_M_M_layPlan_M_layPlan (c_M_layPlan (gk C) h15) (by decide) (by decide) rfl rfl (Nat.le_of_ble_eq_true rfl) d_M_layBest_47 ?_
      refine R_jn (fun K37 => ∀ (j35 : Int32) (μ36 : Mm), R sdM q z 7 (φIm ν) (K37 (j35, μ36)) μ36 ν 132 [(0, .ref (q.2.2.1 0)), (1, .int f10), (2, .int f11), (3, .int j35), (4, .int s9)] []) ?_ (fun K37 hK37 => ?_)
      · intro j35 μ36
        refine R_iinc C 4 d_M_layBest_132 rfl (iinc_v _ (v := 1) (by decide +kernel)) (lv' := [(4, .int (s9 + 1)), (0, .ref (q.2.2.1 0)), (1, .int f10), (2, .int f11), (3, .int j35)]) (by decide) rfl ?_
        refine R_goto C d_M_layBest_135 (tgt := 38) (by decide) ?_
        exact R_sub [4, 0, 1, 2, 3] rfl (ih j35 (s9 + 1) μ36)
      · skip
        refine R_if_ne C d_M_layBest_50 (tgt := 56) (by decide) ?_ ?_
        · skip
          refine R_iload_n C 3 d_M_layBest_56 rfl rfl ?_
          refine R_jn (fun K34 => ∀ (j22 : Int32) (μ23 : Mm), R sdM q z 7 (φIm ν) (K34 (j22, μ23)) μ23 ν 71 [(0, .ref (q.2.2.1 0)), (1, .int f10), (2, .int f11), (3, .int s8), (4, .int s9)] [.int j22]) ?_ (fun K34 hK34 => ?_)
          · intro j22 μ23
            refine R_istore C (lv' := [(5, .int j22), (0, .ref (q.2.2.1 0)), (1, .int f10), (2, .int f11), (3, .int s8), (4, .int s9)]) d_M_layBest_71 (by decide) rfl ?_
            refine R_iload_n C 4 d_M_layBest_73 rfl rfl ?_
            refine R_jn (fun K33 => R sdM q z 7 (φIm ν) (K33 ()) μ23 ν 99 [(0, .ref (q.2.2.1 0)), (1, .int f10), (2, .int f11), (4, .int s9), (5, .int j22)] []) ?_ (fun K33 hK33 => ?_)
            · skip
              refine R_iload C 4 d_M_layBest_99 rfl ?_
              refine R_istore_n C (lv' := [(3, .int j22), (0, .ref (q.2.2.1 0)), (1, .int f10), (2, .int f11), (4, .int s9), (5, .int j22)]) d_M_layBest_101 rfl (by decide) rfl ?_
              refine R_iconst C d_M_layBest_102 (v := 0) (by decide +kernel) ?_
              refine R_istore C (lv' := [(6, .int 0), (3, .int j22), (0, .ref (q.2.2.1 0)), (1, .int f10), (2, .int f11), (4, .int s9), (5, .int j22)]) d_M_layBest_103 (by decide) rfl ?_
              refine R_sub [0, 2, 3, 4, 1, 5] rfl ?_
              refine W_M_layBest_105 C ?_ fu _ _
              intro μ32
              exact R_sub [0, 1, 2, 3, 4] rfl (hK37 j22 μ32)
            · skip
              refine R_if_lt C d_M_layBest_74 (tgt := 99) (by decide) ?_ ?_
              · skip
                exact R_sub [1, 2, 3, 5, 0] rfl (hK33)
              · skip
                refine R_iload_n C 2 d_M_layBest_77 rfl rfl ?_
                refine R_if_eq C d_M_layBest_78 (tgt := 90) (by decide) ?_ ?_
                · skip
                  refine R_iload C 0 d_M_layBest_90 rfl ?_
                  refine R_iload_n C 4 d_M_layBest_92 rfl rfl ?_
                  refine R_icmp_gt C d_M_layBest_93 (tgt := 99) (by decide) ?_ ?_
                  · skip
                    exact R_sub [1, 2, 3, 5, 0] rfl (hK33)
                  · skip
                    refine R_goto C d_M_layBest_96 (tgt := 132) (by decide) ?_
                    exact R_sub [1, 2, 3, 4, 5] rfl (hK37 s8 μ23)
                · skip
                  refine R_iload C 0 d_M_layBest_81 rfl ?_
                  refine R_iload_n C 4 d_M_layBest_83 rfl rfl ?_
                  refine R_icmp_lt C d_M_layBest_84 (tgt := 99) (by decide) ?_ ?_
                  · skip
                    exact R_sub [1, 2, 3, 5, 0] rfl (hK33)
                  · skip
                    refine R_goto C d_M_layBest_87 (tgt := 132) (by decide) ?_
                    exact R_sub [1, 2, 3, 4, 5] rfl (hK37 s8 μ23)
          · skip
            refine R_if_eq C d_M_layBest_57 (tgt := 67) (by decide) ?_ ?_
            · skip
              refine R_aload_n C 2 d_M_layBest_67 rfl rfl ?_
              refine R_bind (fun r_ h18 => ?_)
              obtain ⟨v16, μ17⟩ := r_
              refine R_callV C mm_0 (mc_0 q _ _) rfl cf_M_allLearn rfl ml_M_355 im_M_allLearn sl_M_M_allLearn_M_allLearn (c_M_allLearn (gk C) h18) (by decide) (by decide) rfl rfl (Nat.le_of_ble_eq_true rfl) d_M_layBest_68 ?_
              exact R_sub [2, 3, 4, 0, 1] rfl (hK34 v16 μ17)
            · skip
              refine R_aload_n C 2 d_M_layBest_60 rfl rfl ?_
              refine R_bind (fun r_ h21 => ?_)
              obtain ⟨v19, μ20⟩ := r_
              refine R_callV C mm_0 (mc_0 q _ _) rfl cf_M_noise rfl ml_M_251 im_M_noise sl_M_M_noise_M_noise (c_M_noise (gk C) h21) (by decide) (by decide) rfl rfl (Nat.le_of_ble_eq_true rfl) d_M_layBest_61 ?_
              refine R_goto C d_M_layBest_64 (tgt := 71) (by decide) ?_
              exact R_sub [2, 3, 4, 0, 1] rfl (hK34 v19 μ20)
        · skip
          refine R_goto C d_M_layBest_53 (tgt := 132) (by decide) ?_
          exact R_sub [2, 3, 4, 0, 1] rfl (hK37 s8 μ14)
theorem d_M_layBest_138 : decode prog_14_method_64_code 138 = .ok (.aload_n 0, 1) := by decide +kernel
theorem d_M_layBest_139 : decode prog_14_method_64_code 139 = .ok (.invokevirtual 374, 3) := by decide +kernel
theorem d_M_layBest_142 : decode prog_14_method_64_code 142 = .ok (.iload_n 3, 1) := by decide +kernel
theorem d_M_layBest_143 : decode prog_14_method_64_code 143 = .ok (.ireturn, 1) := by decide +kernel
theorem d_M_layBest_6 : decode prog_14_method_64_code 6 = .ok (.putfield 16, 3) := by decide +kernel
set_option maxRecDepth 10000 in
set_option maxHeartbeats 4000000 in
theorem w_M_layBest {q : QT} {z : ZT} {a1 : Int32} {μ : Mm} {ν : Ml} (C : Ctx sdM q z prog_14_method_64_code "BesideTomModel" 7 7 (some (FieldType.int))) : R sdM q z 7 (φIm ν) (F_M_layBest a1 μ) μ ν 0 [(0, .ref (q.2.2.1 0)), (1, .int a1)] [] := by
  unfold F_M_layBest
  refine R_aload_n C 0 d_M_layBest_0 rfl rfl ?_
  refine R_bind (fun μ1 h2 => ?_)
  refine R_callV C mm_0 (mc_0 q _ _) rfl cf_M_save rfl ml_M_371 im_M_save sl_M_M_save_M_save (c_M_save (gk C) h2) (by decide) (by decide) rfl rfl (Nat.le_of_ble_eq_true rfl) d_M_layBest_1 ?_
  refine R_aload_n C 0 d_M_layBest_4 rfl rfl ?_
  refine R_iconst C d_M_layBest_5 (v := 0) (by decide +kernel) ?_
  refine pf_M_worn C fl_M_16 d_M_layBest_6 (fun μ3 => ?_)
  refine R_iconst C d_M_layBest_9 (v := 1) (by decide +kernel) ?_
  refine R_istore_n C (lv' := [(2, .int 1), (0, .ref (q.2.2.1 0)), (1, .int a1)]) d_M_layBest_10 rfl (by decide) rfl ?_
  refine R_iconst C d_M_layBest_11 (v := 0) (by decide +kernel) ?_
  refine R_istore_n C (lv' := [(3, .int 0), (2, .int 1), (0, .ref (q.2.2.1 0)), (1, .int a1)]) d_M_layBest_12 rfl (by decide) rfl ?_
  refine R_sub [1, 0, 2, 3] rfl ?_
  refine W_M_layBest_13 C ?_ fu _ _
  intro x7
  refine R_bipush C d_M_layBest_32 (v := (-5)) (by decide +kernel) ?_
  refine R_istore_n C (lv' := [(3, .int (-5)), (0, .ref (q.2.2.1 0)), (1, .int a1), (2, .int x7)]) d_M_layBest_34 rfl (by decide) rfl ?_
  refine R_iconst C d_M_layBest_35 (v := 0) (by decide +kernel) ?_
  refine R_istore C (lv' := [(4, .int 0), (3, .int (-5)), (0, .ref (q.2.2.1 0)), (1, .int a1), (2, .int x7)]) d_M_layBest_36 (by decide) rfl ?_
  refine R_sub [1, 0, 2, 3, 4] rfl ?_
  refine W_M_layBest_38 C ?_ fu _ _ _
  intro x38 μ39
  refine R_aload_n C 0 d_M_layBest_138 rfl rfl ?_
  refine R_bind (fun μ40 h41 => ?_)
  refine R_callV C mm_0 (mc_0 q _ _) rfl cf_M_putBack rfl ml_M_374 im_M_putBack sl_M_M_putBack_M_putBack (c_M_putBack (gk C) h41) (by decide) (by decide) rfl rfl (Nat.le_of_ble_eq_true rfl) d_M_layBest_139 ?_
  refine R_iload_n C 1 d_M_layBest_142 rfl rfl ?_
  exact R_iret C rfl d_M_layBest_143
theorem c_M_layBest {q : QT} (hg : GOk sdM q) {a1 : Int32} {μ : Mm} {ν : Ml} {o : Int32 × Mm} (ho : F_M_layBest a1 μ = some o) : Ct sdM q y_M_layBest prog_14_method_64_code 7 (some (FieldType.int)) 7 [.ref (q.2.2.1 0), .int a1] μ ν ((φIm ν) o).1 ((φIm ν) o).2.1 ((φIm ν) o).2.2 := Ct_of rfl hg (fun z C => w_M_layBest C) (Nat.le_of_ble_eq_true rfl) ho
def L_M_loud_17 (f6 : Int32) (k : Int32 → Mm → Option (Int32 × Mm)) : Nat → Int32 → Mm → Option (Int32 × Mm)
  | 0, _, _ => none
  | n + 1, s5, μ7 => (if 61 ≤ s5 then k s5 μ7 else (F_M_noise μ7).bind fun p_ => match p_ with | (v8, μ9) => (if f6 ≤ v8 then k s5 μ9 else (F_M_goWeek μ9).bind fun μ11 => L_M_loud_17 f6 k n (s5 + 1) μ11))
def F_M_loud (a1 : Int32) (μ : Mm) : Option (Int32 × Mm) := (F_M_isNoise a1).bind fun v1 => (if v1 = 0 then some ((-2), μ) else (F_M_save μ).bind fun μ3 => L_M_loud_17 a1 (fun (x13 : Int32) (μ14 : Mm) => (F_M_putBack μ14).bind fun μ15 => (if 61 ≤ x13 then some ((-5), μ15) else some (x13, μ15))) fu 0 μ3)
theorem d_M_loud_0 : decode prog_14_method_62_code 0 = .ok (.aload_n 0, 1) := by decide +kernel
theorem d_M_loud_1 : decode prog_14_method_62_code 1 = .ok (.iload_n 1, 1) := by decide +kernel
theorem d_M_loud_2 : decode prog_14_method_62_code 2 = .ok (.invokevirtual 377, 3) := by decide +kernel
theorem d_M_loud_11 : decode prog_14_method_62_code 11 = .ok (.aload_n 0, 1) := by decide +kernel
theorem d_M_loud_12 : decode prog_14_method_62_code 12 = .ok (.invokevirtual 371, 3) := by decide +kernel
theorem d_M_loud_15 : decode prog_14_method_62_code 15 = .ok (.iconst 0, 1) := by decide +kernel
theorem d_M_loud_16 : decode prog_14_method_62_code 16 = .ok (.istore_n 2, 1) := by decide +kernel
theorem d_M_loud_17 : decode prog_14_method_62_code 17 = .ok (.iload_n 2, 1) := by decide +kernel
theorem d_M_loud_18 : decode prog_14_method_62_code 18 = .ok (.bipush 61, 2) := by decide +kernel
theorem d_M_loud_23 : decode prog_14_method_62_code 23 = .ok (.aload_n 0, 1) := by decide +kernel
theorem d_M_loud_24 : decode prog_14_method_62_code 24 = .ok (.invokevirtual 251, 3) := by decide +kernel
theorem d_M_loud_27 : decode prog_14_method_62_code 27 = .ok (.iload_n 1, 1) := by decide +kernel
theorem d_M_loud_31 : decode prog_14_method_62_code 31 = .ok (.aload_n 0, 1) := by decide +kernel
theorem d_M_loud_32 : decode prog_14_method_62_code 32 = .ok (.invokevirtual 361, 3) := by decide +kernel
theorem d_M_loud_35 : decode prog_14_method_62_code 35 = .ok (.iinc 2 1, 3) := by decide +kernel
theorem d_M_loud_38 : decode prog_14_method_62_code 38 = .ok (.goto (-21), 3) := by decide +kernel
theorem d_M_loud_28 : decode prog_14_method_62_code 28 = .ok (.if_icmp .ge 13, 3) := by decide +kernel
theorem d_M_loud_20 : decode prog_14_method_62_code 20 = .ok (.if_icmp .ge 21, 3) := by decide +kernel
set_option maxRecDepth 10000 in
set_option maxHeartbeats 4000000 in
theorem W_M_loud_17 {q : QT} {z : ZT} {ν : Ml} {f6 : Int32} {k : Int32 → Mm → Option (Int32 × Mm)} (C : Ctx sdM q z prog_14_method_62_code "BesideTomModel" 3 7 (some (FieldType.int))) (hk : ∀ (e0_ : Int32) (me_ : Mm), R sdM q z 3 (φIm ν) (k e0_ me_) me_ ν 41 [(0, .ref (q.2.2.1 0)), (2, .int e0_)] []) : ∀ (n : Nat) (s5 : Int32) (μ7 : Mm), R sdM q z 3 (φIm ν) (L_M_loud_17 f6 k n s5 μ7) μ7 ν 17 [(2, .int s5), (0, .ref (q.2.2.1 0)), (1, .int f6)] [] := by
  intro n
  induction n with
  | zero =>
    intros
    exact R_none
  | succ n ih =>
    intro s5 μ7
    rw [L_M_loud_17]
    refine R_iload_n C 0 d_M_loud_17 rfl rfl ?_
    refine R_bipush C d_M_loud_18 (v := 61) (by decide +kernel) ?_
    refine R_icmp_ge C d_M_loud_20 (tgt := 41) (by decide) ?_ ?_
    · skip
      exact R_sub [1, 0] rfl (hk s5 μ7)
    · skip
      refine R_aload_n C 1 d_M_loud_23 rfl rfl ?_
      refine R_bind (fun r_ h10 => ?_)
      obtain ⟨v8, μ9⟩ := r_
      refine R_callV C mm_0 (mc_0 q _ _) rfl cf_M_noise rfl ml_M_251 im_M_noise sl_M_M_noise_M_noise (c_M_noise (gk C) h10) (by decide) (by decide) rfl rfl (Nat.le_of_ble_eq_true rfl) d_M_loud_24 ?_
      refine R_iload_n C 2 d_M_loud_27 rfl rfl ?_
      refine R_icmp_ge C d_M_loud_28 (tgt := 41) (by decide) ?_ ?_
      · skip
        exact R_sub [1, 0] rfl (hk s5 μ9)
      · skip
        refine R_aload_n C 1 d_M_loud_31 rfl rfl ?_
        refine R_bind (fun μ11 h12 => ?_)
        refine R_callV C mm_0 (mc_0 q _ _) rfl cf_M_goWeek rfl ml_M_361 im_M_goWeek sl_M_M_goWeek_M_goWeek (c_M_goWeek (gk C) h12) (by decide) (by decide) rfl rfl (Nat.le_of_ble_eq_true rfl) d_M_loud_32 ?_
        refine R_iinc C 0 d_M_loud_35 rfl (iinc_v _ (v := 1) (by decide +kernel)) (lv' := [(2, .int (s5 + 1)), (0, .ref (q.2.2.1 0)), (1, .int f6)]) (by decide) rfl ?_
        refine R_goto C d_M_loud_38 (tgt := 17) (by decide) ?_
        exact R_sub [0, 1, 2] rfl (ih (s5 + 1) μ11)
theorem d_M_loud_41 : decode prog_14_method_62_code 41 = .ok (.aload_n 0, 1) := by decide +kernel
theorem d_M_loud_42 : decode prog_14_method_62_code 42 = .ok (.invokevirtual 374, 3) := by decide +kernel
theorem d_M_loud_45 : decode prog_14_method_62_code 45 = .ok (.iload_n 2, 1) := by decide +kernel
theorem d_M_loud_46 : decode prog_14_method_62_code 46 = .ok (.bipush 61, 2) := by decide +kernel
theorem d_M_loud_55 : decode prog_14_method_62_code 55 = .ok (.bipush (-5), 2) := by decide +kernel
theorem d_M_loud_57 : decode prog_14_method_62_code 57 = .ok (.ireturn, 1) := by decide +kernel
theorem d_M_loud_51 : decode prog_14_method_62_code 51 = .ok (.iload_n 2, 1) := by decide +kernel
theorem d_M_loud_52 : decode prog_14_method_62_code 52 = .ok (.goto 5, 3) := by decide +kernel
theorem d_M_loud_48 : decode prog_14_method_62_code 48 = .ok (.if_icmp .ge 7, 3) := by decide +kernel
theorem d_M_loud_8 : decode prog_14_method_62_code 8 = .ok (.bipush (-2), 2) := by decide +kernel
theorem d_M_loud_10 : decode prog_14_method_62_code 10 = .ok (.ireturn, 1) := by decide +kernel
theorem d_M_loud_5 : decode prog_14_method_62_code 5 = .ok (.ifCond .ne 6, 3) := by decide +kernel
set_option maxRecDepth 10000 in
set_option maxHeartbeats 4000000 in
theorem w_M_loud {q : QT} {z : ZT} {a1 : Int32} {μ : Mm} {ν : Ml} (C : Ctx sdM q z prog_14_method_62_code "BesideTomModel" 3 7 (some (FieldType.int))) : R sdM q z 3 (φIm ν) (F_M_loud a1 μ) μ ν 0 [(0, .ref (q.2.2.1 0)), (1, .int a1)] [] := by
  unfold F_M_loud
  refine R_aload_n C 0 d_M_loud_0 rfl rfl ?_
  refine R_iload_n C 1 d_M_loud_1 rfl rfl ?_
  refine R_bind (fun v1 h2 => ?_)
  refine R_callV C mm_0 (mc_0 q _ _) rfl cf_M_isNoise rfl ml_M_377 im_M_isNoise sl_M_M_isNoise_M_isNoise (c_M_isNoise (gk C) h2) (by decide) (by decide) rfl rfl (Nat.le_of_ble_eq_true rfl) d_M_loud_2 ?_
  refine R_if_ne C d_M_loud_5 (tgt := 11) (by decide) ?_ ?_
  · skip
    refine R_aload_n C 0 d_M_loud_11 rfl rfl ?_
    refine R_bind (fun μ3 h4 => ?_)
    refine R_callV C mm_0 (mc_0 q _ _) rfl cf_M_save rfl ml_M_371 im_M_save sl_M_M_save_M_save (c_M_save (gk C) h4) (by decide) (by decide) rfl rfl (Nat.le_of_ble_eq_true rfl) d_M_loud_12 ?_
    refine R_iconst C d_M_loud_15 (v := 0) (by decide +kernel) ?_
    refine R_istore_n C (lv' := [(2, .int 0), (0, .ref (q.2.2.1 0)), (1, .int a1)]) d_M_loud_16 rfl (by decide) rfl ?_
    refine R_sub [0, 1, 2] rfl ?_
    refine W_M_loud_17 C ?_ fu _ _
    intro x13 μ14
    refine R_aload_n C 0 d_M_loud_41 rfl rfl ?_
    refine R_bind (fun μ15 h16 => ?_)
    refine R_callV C mm_0 (mc_0 q _ _) rfl cf_M_putBack rfl ml_M_374 im_M_putBack sl_M_M_putBack_M_putBack (c_M_putBack (gk C) h16) (by decide) (by decide) rfl rfl (Nat.le_of_ble_eq_true rfl) d_M_loud_42 ?_
    refine R_iload_n C 1 d_M_loud_45 rfl rfl ?_
    refine R_bipush C d_M_loud_46 (v := 61) (by decide +kernel) ?_
    refine R_icmp_ge C d_M_loud_48 (tgt := 55) (by decide) ?_ ?_
    · skip
      refine R_bipush C d_M_loud_55 (v := (-5)) (by decide +kernel) ?_
      exact R_iret C rfl d_M_loud_57
    · skip
      refine R_iload_n C 1 d_M_loud_51 rfl rfl ?_
      refine R_goto C d_M_loud_52 (tgt := 57) (by decide) ?_
      exact R_iret C rfl d_M_loud_57
  · skip
    refine R_bipush C d_M_loud_8 (v := (-2)) (by decide +kernel) ?_
    exact R_iret C rfl d_M_loud_10
theorem c_M_loud {q : QT} (hg : GOk sdM q) {a1 : Int32} {μ : Mm} {ν : Ml} {o : Int32 × Mm} (ho : F_M_loud a1 μ = some o) : Ct sdM q y_M_loud prog_14_method_62_code 3 (some (FieldType.int)) 7 [.ref (q.2.2.1 0), .int a1] μ ν ((φIm ν) o).1 ((φIm ν) o).2.1 ((φIm ν) o).2.2 := Ct_of rfl hg (fun z C => w_M_loud C) (Nat.le_of_ble_eq_true rfl) ho
def F_M_mean (a1 : Int32) (μ : Mm) : Option (Int64 × Mm) := (F_M_in a1 0 1).bind fun v1 => (if v1 = 0 then some ((-9223372036854775808), μ) else (if (μ 0 0) ≤ 0 then some ((-9223372036854775808), μ) else (F_M_allLearn μ).bind fun p_ => match p_ with | (v3, μ4) => (F_M_lowest v3 (μ4 0 0) a1).bind fun v6 => some (v6, μ4)))
theorem d_M_mean_0 : decode prog_14_method_84_code 0 = .ok (.aload_n 0, 1) := by decide +kernel
theorem d_M_mean_1 : decode prog_14_method_84_code 1 = .ok (.iload_n 1, 1) := by decide +kernel
theorem d_M_mean_2 : decode prog_14_method_84_code 2 = .ok (.iconst 0, 1) := by decide +kernel
theorem d_M_mean_3 : decode prog_14_method_84_code 3 = .ok (.iconst 1, 1) := by decide +kernel
theorem d_M_mean_4 : decode prog_14_method_84_code 4 = .ok (.invokevirtual 225, 3) := by decide +kernel
theorem d_M_mean_33 : decode prog_14_method_84_code 33 = .ok (.ldc2_w 414, 3) := by decide +kernel
theorem d_M_mean_36 : decode prog_14_method_84_code 36 = .ok (.lreturn, 1) := by decide +kernel
theorem d_M_mean_10 : decode prog_14_method_84_code 10 = .ok (.aload_n 0, 1) := by decide +kernel
theorem d_M_mean_17 : decode prog_14_method_84_code 17 = .ok (.aload_n 0, 1) := by decide +kernel
theorem d_M_mean_18 : decode prog_14_method_84_code 18 = .ok (.aload_n 0, 1) := by decide +kernel
theorem d_M_mean_19 : decode prog_14_method_84_code 19 = .ok (.invokevirtual 355, 3) := by decide +kernel
theorem d_M_mean_22 : decode prog_14_method_84_code 22 = .ok (.aload_n 0, 1) := by decide +kernel
theorem d_M_mean_26 : decode prog_14_method_84_code 26 = .ok (.iload_n 1, 1) := by decide +kernel
theorem d_M_mean_27 : decode prog_14_method_84_code 27 = .ok (.invokevirtual 416, 3) := by decide +kernel
theorem d_M_mean_30 : decode prog_14_method_84_code 30 = .ok (.goto 6, 3) := by decide +kernel
theorem d_M_mean_23 : decode prog_14_method_84_code 23 = .ok (.getfield 7, 3) := by decide +kernel
theorem d_M_mean_14 : decode prog_14_method_84_code 14 = .ok (.ifCond .le 19, 3) := by decide +kernel
theorem d_M_mean_11 : decode prog_14_method_84_code 11 = .ok (.getfield 7, 3) := by decide +kernel
theorem d_M_mean_7 : decode prog_14_method_84_code 7 = .ok (.ifCond .eq 26, 3) := by decide +kernel
set_option maxRecDepth 10000 in
set_option maxHeartbeats 4000000 in
theorem w_M_mean {q : QT} {z : ZT} {a1 : Int32} {μ : Mm} {ν : Ml} (C : Ctx sdM q z prog_14_method_84_code "BesideTomModel" 2 7 (some (FieldType.long))) : R sdM q z 2 (φLm ν) (F_M_mean a1 μ) μ ν 0 [(0, .ref (q.2.2.1 0)), (1, .int a1)] [] := by
  unfold F_M_mean
  refine R_aload_n C 0 d_M_mean_0 rfl rfl ?_
  refine R_iload_n C 1 d_M_mean_1 rfl rfl ?_
  refine R_iconst C d_M_mean_2 (v := 0) (by decide +kernel) ?_
  refine R_iconst C d_M_mean_3 (v := 1) (by decide +kernel) ?_
  refine R_bind (fun v1 h2 => ?_)
  refine R_callV C mm_0 (mc_0 q _ _) rfl cf_M_in rfl ml_M_225 im_M_in sl_M_M_in_M_in (c_M_in (gk C) h2) (by decide) (by decide) rfl rfl (Nat.le_of_ble_eq_true rfl) d_M_mean_4 ?_
  refine R_if_eq C d_M_mean_7 (tgt := 33) (by decide) ?_ ?_
  · skip
    refine R_ldc2 C k_M_414 d_M_mean_33 ?_
    exact R_lret C rfl d_M_mean_36
  · skip
    refine R_aload_n C 0 d_M_mean_10 rfl rfl ?_
    refine gf_M_pupils C fl_M_7 d_M_mean_11 ?_
    refine R_if_le C d_M_mean_14 (tgt := 33) (by decide) ?_ ?_
    · skip
      refine R_ldc2 C k_M_414 d_M_mean_33 ?_
      exact R_lret C rfl d_M_mean_36
    · skip
      refine R_aload_n C 0 d_M_mean_17 rfl rfl ?_
      refine R_aload_n C 0 d_M_mean_18 rfl rfl ?_
      refine R_bind (fun r_ h5 => ?_)
      obtain ⟨v3, μ4⟩ := r_
      refine R_callV C mm_0 (mc_0 q _ _) rfl cf_M_allLearn rfl ml_M_355 im_M_allLearn sl_M_M_allLearn_M_allLearn (c_M_allLearn (gk C) h5) (by decide) (by decide) rfl rfl (Nat.le_of_ble_eq_true rfl) d_M_mean_19 ?_
      refine R_aload_n C 0 d_M_mean_22 rfl rfl ?_
      refine gf_M_pupils C fl_M_7 d_M_mean_23 ?_
      refine R_iload_n C 1 d_M_mean_26 rfl rfl ?_
      refine R_bind (fun v6 h7 => ?_)
      refine R_callV C mm_0 (mc_0 q _ _) rfl cf_M_lowest rfl ml_M_416 im_M_lowest sl_M_M_lowest_M_lowest (c_M_lowest (gk C) h7) (by decide) (by decide) rfl rfl (Nat.le_of_ble_eq_true rfl) d_M_mean_27 ?_
      refine R_goto C d_M_mean_30 (tgt := 36) (by decide) ?_
      exact R_lret C rfl d_M_mean_36
theorem c_M_mean {q : QT} (hg : GOk sdM q) {a1 : Int32} {μ : Mm} {ν : Ml} {o : Int64 × Mm} (ho : F_M_mean a1 μ = some o) : Ct sdM q y_M_mean prog_14_method_84_code 2 (some (FieldType.long)) 7 [.ref (q.2.2.1 0), .int a1] μ ν ((φLm ν) o).1 ((φLm ν) o).2.1 ((φLm ν) o).2.2 := Ct_of rfl hg (fun z C => w_M_mean C) (Nat.le_of_ble_eq_true rfl) ho
def L_M_odds_34 (f7 : Int32) (f8 : Int32) (k : Int32 → Mm → Option (Int64 × Mm)) : Nat → Int32 → Int32 → Mm → Option (Int64 × Mm)
  | 0, _, _, _ => none
  | n + 1, s5, s6, μ9 => (if (μ9 0 0) ≤ s6 then k s5 μ9 else (F_M_noiseWithout s6 μ9).bind fun p_ => match p_ with | (v10, μ11) => jn (α := Int32) (fun K14 => (if f7 < v10 then K14 0 else K14 1)) (fun (j13 : Int32) => L_M_odds_34 f7 f8 k n (s5 + j13) (s6 + 1) μ11))
def F_M_odds (a1 : Int32) (a2 : Int32) (μ : Mm) : Option (Int64 × Mm) := (F_M_isNoise a1).bind fun v1 => (if v1 = 0 then some ((-9223372036854775808), μ) else (F_M_in a2 0 1).bind fun v3 => (if v3 = 0 then some ((-9223372036854775808), μ) else (if (μ 0 0) = 0 then some ((-9223372036854775808), μ) else L_M_odds_34 a1 a2 (fun (x15 : Int32) (μ16 : Mm) => (F_M_lowest x15 (μ16 0 0) a2).bind fun v17 => some (v17, μ16)) fu 0 0 μ)))
theorem d_M_odds_0 : decode prog_14_method_83_code 0 = .ok (.aload_n 0, 1) := by decide +kernel
theorem d_M_odds_1 : decode prog_14_method_83_code 1 = .ok (.iload_n 1, 1) := by decide +kernel
theorem d_M_odds_2 : decode prog_14_method_83_code 2 = .ok (.invokevirtual 377, 3) := by decide +kernel
theorem d_M_odds_25 : decode prog_14_method_83_code 25 = .ok (.ldc2_w 414, 3) := by decide +kernel
theorem d_M_odds_28 : decode prog_14_method_83_code 28 = .ok (.lreturn, 1) := by decide +kernel
theorem d_M_odds_8 : decode prog_14_method_83_code 8 = .ok (.aload_n 0, 1) := by decide +kernel
theorem d_M_odds_9 : decode prog_14_method_83_code 9 = .ok (.iload_n 2, 1) := by decide +kernel
theorem d_M_odds_10 : decode prog_14_method_83_code 10 = .ok (.iconst 0, 1) := by decide +kernel
theorem d_M_odds_11 : decode prog_14_method_83_code 11 = .ok (.iconst 1, 1) := by decide +kernel
theorem d_M_odds_12 : decode prog_14_method_83_code 12 = .ok (.invokevirtual 225, 3) := by decide +kernel
theorem d_M_odds_18 : decode prog_14_method_83_code 18 = .ok (.aload_n 0, 1) := by decide +kernel
theorem d_M_odds_29 : decode prog_14_method_83_code 29 = .ok (.iconst 0, 1) := by decide +kernel
theorem d_M_odds_30 : decode prog_14_method_83_code 30 = .ok (.istore_n 3, 1) := by decide +kernel
theorem d_M_odds_31 : decode prog_14_method_83_code 31 = .ok (.iconst 0, 1) := by decide +kernel
theorem d_M_odds_32 : decode prog_14_method_83_code 32 = .ok (.istore 4, 2) := by decide +kernel
theorem d_M_odds_34 : decode prog_14_method_83_code 34 = .ok (.iload 4, 2) := by decide +kernel
theorem d_M_odds_36 : decode prog_14_method_83_code 36 = .ok (.aload_n 0, 1) := by decide +kernel
theorem d_M_odds_43 : decode prog_14_method_83_code 43 = .ok (.iload_n 3, 1) := by decide +kernel
theorem d_M_odds_44 : decode prog_14_method_83_code 44 = .ok (.aload_n 0, 1) := by decide +kernel
theorem d_M_odds_45 : decode prog_14_method_83_code 45 = .ok (.iload 4, 2) := by decide +kernel
theorem d_M_odds_47 : decode prog_14_method_83_code 47 = .ok (.invokevirtual 390, 3) := by decide +kernel
theorem d_M_odds_50 : decode prog_14_method_83_code 50 = .ok (.iload_n 1, 1) := by decide +kernel
theorem d_M_odds_58 : decode prog_14_method_83_code 58 = .ok (.iconst 0, 1) := by decide +kernel
theorem d_M_odds_54 : decode prog_14_method_83_code 54 = .ok (.iconst 1, 1) := by decide +kernel
theorem d_M_odds_55 : decode prog_14_method_83_code 55 = .ok (.goto 4, 3) := by decide +kernel
theorem d_M_odds_51 : decode prog_14_method_83_code 51 = .ok (.if_icmp .gt 7, 3) := by decide +kernel
theorem d_M_odds_59 : decode prog_14_method_83_code 59 = .ok (.iadd, 1) := by decide +kernel
theorem d_M_odds_60 : decode prog_14_method_83_code 60 = .ok (.istore_n 3, 1) := by decide +kernel
theorem d_M_odds_61 : decode prog_14_method_83_code 61 = .ok (.iinc 4 1, 3) := by decide +kernel
theorem d_M_odds_64 : decode prog_14_method_83_code 64 = .ok (.goto (-30), 3) := by decide +kernel
theorem d_M_odds_40 : decode prog_14_method_83_code 40 = .ok (.if_icmp .ge 27, 3) := by decide +kernel
theorem d_M_odds_37 : decode prog_14_method_83_code 37 = .ok (.getfield 7, 3) := by decide +kernel
set_option maxRecDepth 10000 in
set_option maxHeartbeats 4000000 in
theorem W_M_odds_34 {q : QT} {z : ZT} {ν : Ml} {f7 : Int32} {f8 : Int32} {k : Int32 → Mm → Option (Int64 × Mm)} (C : Ctx sdM q z prog_14_method_83_code "BesideTomModel" 5 7 (some (FieldType.long))) (hk : ∀ (e0_ : Int32) (me_ : Mm), R sdM q z 5 (φLm ν) (k e0_ me_) me_ ν 67 [(0, .ref (q.2.2.1 0)), (2, .int f8), (3, .int e0_)] []) : ∀ (n : Nat) (s5 : Int32) (s6 : Int32) (μ9 : Mm), R sdM q z 5 (φLm ν) (L_M_odds_34 f7 f8 k n s5 s6 μ9) μ9 ν 34 [(3, .int s5), (4, .int s6), (0, .ref (q.2.2.1 0)), (1, .int f7), (2, .int f8)] [] := by
  intro n
  induction n with
  | zero =>
    intros
    exact R_none
  | succ n ih =>
    intro s5 s6 μ9
    rw [L_M_odds_34]
    refine R_iload C 1 d_M_odds_34 rfl ?_
    refine R_aload_n C 2 d_M_odds_36 rfl rfl ?_
    refine gf_M_pupils C fl_M_7 d_M_odds_37 ?_
    refine R_icmp_ge C d_M_odds_40 (tgt := 67) (by decide) ?_ ?_
    · skip
      exact R_sub [2, 4, 0] rfl (hk s5 μ9)
    · skip
      refine R_iload_n C 0 d_M_odds_43 rfl rfl ?_
      refine R_aload_n C 2 d_M_odds_44 rfl rfl ?_
      refine R_iload C 1 d_M_odds_45 rfl ?_
      refine R_bind (fun r_ h12 => ?_)
      obtain ⟨v10, μ11⟩ := r_
      refine R_callV C mm_0 (mc_0 q _ _) rfl cf_M_noiseWithout rfl ml_M_390 im_M_noiseWithout sl_M_M_noiseWithout_M_noiseWithout (c_M_noiseWithout (gk C) h12) (by decide) (by decide) rfl rfl (Nat.le_of_ble_eq_true rfl) d_M_odds_47 ?_
      refine R_iload_n C 3 d_M_odds_50 rfl rfl ?_
      refine R_jn (fun K14 => ∀ (j13 : Int32), R sdM q z 5 (φLm ν) (K14 j13) μ11 ν 59 [(0, .ref (q.2.2.1 0)), (1, .int f7), (2, .int f8), (4, .int s6)] [.int j13, .int s5]) ?_ (fun K14 hK14 => ?_)
      · intro j13
        refine R_iadd C d_M_odds_59 ?_
        refine R_istore_n C (lv' := [(3, .int (s5 + j13)), (0, .ref (q.2.2.1 0)), (1, .int f7), (2, .int f8), (4, .int s6)]) d_M_odds_60 rfl (by decide) rfl ?_
        refine R_iinc C 4 d_M_odds_61 rfl (iinc_v _ (v := 1) (by decide +kernel)) (lv' := [(4, .int (s6 + 1)), (3, .int (s5 + j13)), (0, .ref (q.2.2.1 0)), (1, .int f7), (2, .int f8)]) (by decide) rfl ?_
        refine R_goto C d_M_odds_64 (tgt := 34) (by decide) ?_
        exact R_sub [1, 0, 2, 3, 4] rfl (ih (s5 + j13) (s6 + 1) μ11)
      · skip
        refine R_icmp_gt C d_M_odds_51 (tgt := 58) (by decide) ?_ ?_
        · skip
          refine R_iconst C d_M_odds_58 (v := 0) (by decide +kernel) ?_
          exact R_sub [2, 3, 4, 1] rfl (hK14 0)
        · skip
          refine R_iconst C d_M_odds_54 (v := 1) (by decide +kernel) ?_
          refine R_goto C d_M_odds_55 (tgt := 59) (by decide) ?_
          exact R_sub [2, 3, 4, 1] rfl (hK14 1)
theorem d_M_odds_67 : decode prog_14_method_83_code 67 = .ok (.aload_n 0, 1) := by decide +kernel
theorem d_M_odds_68 : decode prog_14_method_83_code 68 = .ok (.iload_n 3, 1) := by decide +kernel
theorem d_M_odds_69 : decode prog_14_method_83_code 69 = .ok (.aload_n 0, 1) := by decide +kernel
theorem d_M_odds_73 : decode prog_14_method_83_code 73 = .ok (.iload_n 2, 1) := by decide +kernel
theorem d_M_odds_74 : decode prog_14_method_83_code 74 = .ok (.invokevirtual 416, 3) := by decide +kernel
theorem d_M_odds_77 : decode prog_14_method_83_code 77 = .ok (.lreturn, 1) := by decide +kernel
theorem d_M_odds_70 : decode prog_14_method_83_code 70 = .ok (.getfield 7, 3) := by decide +kernel
theorem d_M_odds_22 : decode prog_14_method_83_code 22 = .ok (.ifCond .ne 7, 3) := by decide +kernel
theorem d_M_odds_19 : decode prog_14_method_83_code 19 = .ok (.getfield 7, 3) := by decide +kernel
theorem d_M_odds_15 : decode prog_14_method_83_code 15 = .ok (.ifCond .eq 10, 3) := by decide +kernel
theorem d_M_odds_5 : decode prog_14_method_83_code 5 = .ok (.ifCond .eq 20, 3) := by decide +kernel
set_option maxRecDepth 10000 in
set_option maxHeartbeats 4000000 in
theorem w_M_odds {q : QT} {z : ZT} {a1 : Int32} {a2 : Int32} {μ : Mm} {ν : Ml} (C : Ctx sdM q z prog_14_method_83_code "BesideTomModel" 5 7 (some (FieldType.long))) : R sdM q z 5 (φLm ν) (F_M_odds a1 a2 μ) μ ν 0 [(0, .ref (q.2.2.1 0)), (1, .int a1), (2, .int a2)] [] := by
  unfold F_M_odds
  refine R_aload_n C 0 d_M_odds_0 rfl rfl ?_
  refine R_iload_n C 1 d_M_odds_1 rfl rfl ?_
  refine R_bind (fun v1 h2 => ?_)
  refine R_callV C mm_0 (mc_0 q _ _) rfl cf_M_isNoise rfl ml_M_377 im_M_isNoise sl_M_M_isNoise_M_isNoise (c_M_isNoise (gk C) h2) (by decide) (by decide) rfl rfl (Nat.le_of_ble_eq_true rfl) d_M_odds_2 ?_
  refine R_if_eq C d_M_odds_5 (tgt := 25) (by decide) ?_ ?_
  · skip
    refine R_ldc2 C k_M_414 d_M_odds_25 ?_
    exact R_lret C rfl d_M_odds_28
  · skip
    refine R_aload_n C 0 d_M_odds_8 rfl rfl ?_
    refine R_iload_n C 2 d_M_odds_9 rfl rfl ?_
    refine R_iconst C d_M_odds_10 (v := 0) (by decide +kernel) ?_
    refine R_iconst C d_M_odds_11 (v := 1) (by decide +kernel) ?_
    refine R_bind (fun v3 h4 => ?_)
    refine R_callV C mm_0 (mc_0 q _ _) rfl cf_M_in rfl ml_M_225 im_M_in sl_M_M_in_M_in (c_M_in (gk C) h4) (by decide) (by decide) rfl rfl (Nat.le_of_ble_eq_true rfl) d_M_odds_12 ?_
    refine R_if_eq C d_M_odds_15 (tgt := 25) (by decide) ?_ ?_
    · skip
      refine R_ldc2 C k_M_414 d_M_odds_25 ?_
      exact R_lret C rfl d_M_odds_28
    · skip
      refine R_aload_n C 0 d_M_odds_18 rfl rfl ?_
      refine gf_M_pupils C fl_M_7 d_M_odds_19 ?_
      refine R_if_ne C d_M_odds_22 (tgt := 29) (by decide) ?_ ?_
      · skip
        refine R_iconst C d_M_odds_29 (v := 0) (by decide +kernel) ?_
        refine R_istore_n C (lv' := [(3, .int 0), (0, .ref (q.2.2.1 0)), (1, .int a1), (2, .int a2)]) d_M_odds_30 rfl (by decide) rfl ?_
        refine R_iconst C d_M_odds_31 (v := 0) (by decide +kernel) ?_
        refine R_istore C (lv' := [(4, .int 0), (3, .int 0), (0, .ref (q.2.2.1 0)), (1, .int a1), (2, .int a2)]) d_M_odds_32 (by decide) rfl ?_
        refine R_sub [1, 0, 2, 3, 4] rfl ?_
        refine W_M_odds_34 C ?_ fu _ _ _
        intro x15 μ16
        refine R_aload_n C 0 d_M_odds_67 rfl rfl ?_
        refine R_iload_n C 2 d_M_odds_68 rfl rfl ?_
        refine R_aload_n C 0 d_M_odds_69 rfl rfl ?_
        refine gf_M_pupils C fl_M_7 d_M_odds_70 ?_
        refine R_iload_n C 1 d_M_odds_73 rfl rfl ?_
        refine R_bind (fun v17 h18 => ?_)
        refine R_callV C mm_0 (mc_0 q _ _) rfl cf_M_lowest rfl ml_M_416 im_M_lowest sl_M_M_lowest_M_lowest (c_M_lowest (gk C) h18) (by decide) (by decide) rfl rfl (Nat.le_of_ble_eq_true rfl) d_M_odds_74 ?_
        exact R_lret C rfl d_M_odds_77
      · skip
        refine R_ldc2 C k_M_414 d_M_odds_25 ?_
        exact R_lret C rfl d_M_odds_28
theorem c_M_odds {q : QT} (hg : GOk sdM q) {a1 : Int32} {a2 : Int32} {μ : Mm} {ν : Ml} {o : Int64 × Mm} (ho : F_M_odds a1 a2 μ = some o) : Ct sdM q y_M_odds prog_14_method_83_code 5 (some (FieldType.long)) 7 [.ref (q.2.2.1 0), .int a1, .int a2] μ ν ((φLm ν) o).1 ((φLm ν) o).2.1 ((φLm ν) o).2.2 := Ct_of rfl hg (fun z C => w_M_odds C) (Nat.le_of_ble_eq_true rfl) ho
def F_M_of (a1 : Int32) (a2 : Int32) (μ : Mm) : Option (Int32 × Mm) := (F_M_isPupil a1 μ).bind fun v1 => (if v1 = 0 then some ((-1), μ) else (F_M_in a2 10 15).bind fun v3 => (if v3 = 0 then (if a2 = 0 then (rdI (μ 4) 6 a1).bind fun v5 => some (v5, μ) else if a2 = 1 then (rdI (μ 5) 6 a1).bind fun v6 => some (v6, μ) else if a2 = 2 then (rdI (μ 6) 6 a1).bind fun v7 => some (v7, μ) else if a2 = 3 then (rdI (μ 7) 6 a1).bind fun v8 => some (v8, μ) else if a2 = 4 then (F_M_has (μ 0 1) a1).bind fun v9 => (if v9 = 0 then some (0, μ) else some (1, μ)) else if a2 = 5 then (F_M_beside a1 μ).bind fun v11 => some (v11, μ) else if a2 = 6 then (F_M_voice a1 μ).bind fun p_ => match p_ with | (v13, μ14) => some (v13, μ14) else if a2 = 7 then (F_M_talk a1 μ).bind fun p_ => match p_ with | (v16, μ17) => some (v16, μ17) else if a2 = 8 then (F_M_learns a1 μ).bind fun p_ => match p_ with | (v19, μ20) => some (v19, μ20) else some ((-1), μ)) else (F_M_mouth a1 (a2 - 10) μ).bind fun p_ => match p_ with | (v22, μ23) => some (v22, μ23)))
theorem d_M_of_0 : decode prog_14_method_54_code 0 = .ok (.aload_n 0, 1) := by decide +kernel
theorem d_M_of_1 : decode prog_14_method_54_code 1 = .ok (.iload_n 1, 1) := by decide +kernel
theorem d_M_of_2 : decode prog_14_method_54_code 2 = .ok (.invokevirtual 233, 3) := by decide +kernel
theorem d_M_of_10 : decode prog_14_method_54_code 10 = .ok (.aload_n 0, 1) := by decide +kernel
theorem d_M_of_11 : decode prog_14_method_54_code 11 = .ok (.iload_n 2, 1) := by decide +kernel
theorem d_M_of_12 : decode prog_14_method_54_code 12 = .ok (.bipush 10, 2) := by decide +kernel
theorem d_M_of_14 : decode prog_14_method_54_code 14 = .ok (.bipush 15, 2) := by decide +kernel
theorem d_M_of_16 : decode prog_14_method_54_code 16 = .ok (.invokevirtual 225, 3) := by decide +kernel
theorem d_M_of_32 : decode prog_14_method_54_code 32 = .ok (.iload_n 2, 1) := by decide +kernel
theorem d_M_of_33 : decode prog_14_method_54_code 33 = .ok (.tableswitch 121 0 8 #[51, 58, 65, 72, 79, 97, 103, 109, 115], 51) := by decide +kernel
theorem d_M_of_84 : decode prog_14_method_54_code 84 = .ok (.aload_n 0, 1) := by decide +kernel
theorem d_M_of_88 : decode prog_14_method_54_code 88 = .ok (.iload_n 1, 1) := by decide +kernel
theorem d_M_of_90 : decode prog_14_method_54_code 90 = .ok (.ireturn, 1) := by decide +kernel
theorem d_M_of_85 : decode prog_14_method_54_code 85 = .ok (.getfield 22, 3) := by decide +kernel
theorem d_M_of_91 : decode prog_14_method_54_code 91 = .ok (.aload_n 0, 1) := by decide +kernel
theorem d_M_of_95 : decode prog_14_method_54_code 95 = .ok (.iload_n 1, 1) := by decide +kernel
theorem d_M_of_97 : decode prog_14_method_54_code 97 = .ok (.ireturn, 1) := by decide +kernel
theorem d_M_of_92 : decode prog_14_method_54_code 92 = .ok (.getfield 26, 3) := by decide +kernel
theorem d_M_of_98 : decode prog_14_method_54_code 98 = .ok (.aload_n 0, 1) := by decide +kernel
theorem d_M_of_102 : decode prog_14_method_54_code 102 = .ok (.iload_n 1, 1) := by decide +kernel
theorem d_M_of_104 : decode prog_14_method_54_code 104 = .ok (.ireturn, 1) := by decide +kernel
theorem d_M_of_99 : decode prog_14_method_54_code 99 = .ok (.getfield 29, 3) := by decide +kernel
theorem d_M_of_105 : decode prog_14_method_54_code 105 = .ok (.aload_n 0, 1) := by decide +kernel
theorem d_M_of_109 : decode prog_14_method_54_code 109 = .ok (.iload_n 1, 1) := by decide +kernel
theorem d_M_of_111 : decode prog_14_method_54_code 111 = .ok (.ireturn, 1) := by decide +kernel
theorem d_M_of_106 : decode prog_14_method_54_code 106 = .ok (.getfield 32, 3) := by decide +kernel
theorem d_M_of_112 : decode prog_14_method_54_code 112 = .ok (.aload_n 0, 1) := by decide +kernel
theorem d_M_of_113 : decode prog_14_method_54_code 113 = .ok (.aload_n 0, 1) := by decide +kernel
theorem d_M_of_117 : decode prog_14_method_54_code 117 = .ok (.iload_n 1, 1) := by decide +kernel
theorem d_M_of_118 : decode prog_14_method_54_code 118 = .ok (.invokevirtual 221, 3) := by decide +kernel
theorem d_M_of_128 : decode prog_14_method_54_code 128 = .ok (.iconst 0, 1) := by decide +kernel
theorem d_M_of_129 : decode prog_14_method_54_code 129 = .ok (.ireturn, 1) := by decide +kernel
theorem d_M_of_124 : decode prog_14_method_54_code 124 = .ok (.iconst 1, 1) := by decide +kernel
theorem d_M_of_125 : decode prog_14_method_54_code 125 = .ok (.goto 4, 3) := by decide +kernel
theorem d_M_of_121 : decode prog_14_method_54_code 121 = .ok (.ifCond .eq 7, 3) := by decide +kernel
theorem d_M_of_114 : decode prog_14_method_54_code 114 = .ok (.getfield 13, 3) := by decide +kernel
theorem d_M_of_130 : decode prog_14_method_54_code 130 = .ok (.aload_n 0, 1) := by decide +kernel
theorem d_M_of_131 : decode prog_14_method_54_code 131 = .ok (.iload_n 1, 1) := by decide +kernel
theorem d_M_of_132 : decode prog_14_method_54_code 132 = .ok (.invokevirtual 325, 3) := by decide +kernel
theorem d_M_of_135 : decode prog_14_method_54_code 135 = .ok (.ireturn, 1) := by decide +kernel
theorem d_M_of_136 : decode prog_14_method_54_code 136 = .ok (.aload_n 0, 1) := by decide +kernel
theorem d_M_of_137 : decode prog_14_method_54_code 137 = .ok (.iload_n 1, 1) := by decide +kernel
theorem d_M_of_138 : decode prog_14_method_54_code 138 = .ok (.invokevirtual 334, 3) := by decide +kernel
theorem d_M_of_141 : decode prog_14_method_54_code 141 = .ok (.ireturn, 1) := by decide +kernel
theorem d_M_of_142 : decode prog_14_method_54_code 142 = .ok (.aload_n 0, 1) := by decide +kernel
theorem d_M_of_143 : decode prog_14_method_54_code 143 = .ok (.iload_n 1, 1) := by decide +kernel
theorem d_M_of_144 : decode prog_14_method_54_code 144 = .ok (.invokevirtual 340, 3) := by decide +kernel
theorem d_M_of_147 : decode prog_14_method_54_code 147 = .ok (.ireturn, 1) := by decide +kernel
theorem d_M_of_148 : decode prog_14_method_54_code 148 = .ok (.aload_n 0, 1) := by decide +kernel
theorem d_M_of_149 : decode prog_14_method_54_code 149 = .ok (.iload_n 1, 1) := by decide +kernel
theorem d_M_of_150 : decode prog_14_method_54_code 150 = .ok (.invokevirtual 349, 3) := by decide +kernel
theorem d_M_of_153 : decode prog_14_method_54_code 153 = .ok (.ireturn, 1) := by decide +kernel
theorem d_M_of_154 : decode prog_14_method_54_code 154 = .ok (.iconst (-1), 1) := by decide +kernel
theorem d_M_of_155 : decode prog_14_method_54_code 155 = .ok (.ireturn, 1) := by decide +kernel
theorem d_M_of_22 : decode prog_14_method_54_code 22 = .ok (.aload_n 0, 1) := by decide +kernel
theorem d_M_of_23 : decode prog_14_method_54_code 23 = .ok (.iload_n 1, 1) := by decide +kernel
theorem d_M_of_24 : decode prog_14_method_54_code 24 = .ok (.iload_n 2, 1) := by decide +kernel
theorem d_M_of_25 : decode prog_14_method_54_code 25 = .ok (.bipush 10, 2) := by decide +kernel
theorem d_M_of_27 : decode prog_14_method_54_code 27 = .ok (.isub, 1) := by decide +kernel
theorem d_M_of_28 : decode prog_14_method_54_code 28 = .ok (.invokevirtual 331, 3) := by decide +kernel
theorem d_M_of_31 : decode prog_14_method_54_code 31 = .ok (.ireturn, 1) := by decide +kernel
theorem d_M_of_19 : decode prog_14_method_54_code 19 = .ok (.ifCond .eq 13, 3) := by decide +kernel
theorem d_M_of_8 : decode prog_14_method_54_code 8 = .ok (.iconst (-1), 1) := by decide +kernel
theorem d_M_of_9 : decode prog_14_method_54_code 9 = .ok (.ireturn, 1) := by decide +kernel
theorem d_M_of_5 : decode prog_14_method_54_code 5 = .ok (.ifCond .ne 5, 3) := by decide +kernel
theorem d_M_of_89 : decode prog_14_method_54_code 89 = .ok (.iaload, 1) := by decide +kernel
theorem d_M_of_96 : decode prog_14_method_54_code 96 = .ok (.iaload, 1) := by decide +kernel
theorem d_M_of_103 : decode prog_14_method_54_code 103 = .ok (.iaload, 1) := by decide +kernel
theorem d_M_of_110 : decode prog_14_method_54_code 110 = .ok (.iaload, 1) := by decide +kernel
set_option maxRecDepth 10000 in
set_option maxHeartbeats 4000000 in
theorem w_M_of {q : QT} {z : ZT} {a1 : Int32} {a2 : Int32} {μ : Mm} {ν : Ml} (C : Ctx sdM q z prog_14_method_54_code "BesideTomModel" 3 7 (some (FieldType.int))) : R sdM q z 3 (φIm ν) (F_M_of a1 a2 μ) μ ν 0 [(0, .ref (q.2.2.1 0)), (1, .int a1), (2, .int a2)] [] := by
  unfold F_M_of
  refine R_aload_n C 0 d_M_of_0 rfl rfl ?_
  refine R_iload_n C 1 d_M_of_1 rfl rfl ?_
  refine R_bind (fun v1 h2 => ?_)
  refine R_callV C mm_0 (mc_0 q _ _) rfl cf_M_isPupil rfl ml_M_233 im_M_isPupil sl_M_M_isPupil_M_isPupil (c_M_isPupil (gk C) h2) (by decide) (by decide) rfl rfl (Nat.le_of_ble_eq_true rfl) d_M_of_2 ?_
  refine R_if_ne C d_M_of_5 (tgt := 10) (by decide) ?_ ?_
  · skip
    refine R_aload_n C 0 d_M_of_10 rfl rfl ?_
    refine R_iload_n C 2 d_M_of_11 rfl rfl ?_
    refine R_bipush C d_M_of_12 (v := 10) (by decide +kernel) ?_
    refine R_bipush C d_M_of_14 (v := 15) (by decide +kernel) ?_
    refine R_bind (fun v3 h4 => ?_)
    refine R_callV C mm_0 (mc_0 q _ _) rfl cf_M_in rfl ml_M_225 im_M_in sl_M_M_in_M_in (c_M_in (gk C) h4) (by decide) (by decide) rfl rfl (Nat.le_of_ble_eq_true rfl) d_M_of_16 ?_
    refine R_if_eq C d_M_of_19 (tgt := 32) (by decide) ?_ ?_
    · skip
      refine R_iload_n C 2 d_M_of_32 rfl rfl ?_
      refine R_ite (fun e25 => ?_) (fun e25 => ?_)
      · refine R_tsw C e25 d_M_of_33 (tgt := 84) (by decide +kernel) (by decide +kernel) rfl (by decide) ?_
        refine R_aload_n C 0 d_M_of_84 rfl rfl ?_
        refine gf_M_kind C fl_M_22 d_M_of_85 ?_
        refine R_iload_n C 1 d_M_of_88 rfl rfl ?_
        refine R_iald C mm_4 (mc_4 q _ _) d_M_of_89 (fun v5 => ?_)
        exact R_iret C rfl d_M_of_90
      refine R_ite (fun e26 => ?_) (fun e26 => ?_)
      · refine R_tsw C e26 d_M_of_33 (tgt := 91) (by decide +kernel) (by decide +kernel) rfl (by decide) ?_
        refine R_aload_n C 0 d_M_of_91 rfl rfl ?_
        refine gf_M_v C fl_M_26 d_M_of_92 ?_
        refine R_iload_n C 1 d_M_of_95 rfl rfl ?_
        refine R_iald C mm_5 (mc_5 q _ _) d_M_of_96 (fun v6 => ?_)
        exact R_iret C rfl d_M_of_97
      refine R_ite (fun e27 => ?_) (fun e27 => ?_)
      · refine R_tsw C e27 d_M_of_33 (tgt := 98) (by decide +kernel) (by decide +kernel) rfl (by decide) ?_
        refine R_aload_n C 0 d_M_of_98 rfl rfl ?_
        refine gf_M_desk C fl_M_29 d_M_of_99 ?_
        refine R_iload_n C 1 d_M_of_102 rfl rfl ?_
        refine R_iald C mm_6 (mc_6 q _ _) d_M_of_103 (fun v7 => ?_)
        exact R_iret C rfl d_M_of_104
      refine R_ite (fun e28 => ?_) (fun e28 => ?_)
      · refine R_tsw C e28 d_M_of_33 (tgt := 105) (by decide +kernel) (by decide +kernel) rfl (by decide) ?_
        refine R_aload_n C 0 d_M_of_105 rfl rfl ?_
        refine gf_M_knew C fl_M_32 d_M_of_106 ?_
        refine R_iload_n C 1 d_M_of_109 rfl rfl ?_
        refine R_iald C mm_7 (mc_7 q _ _) d_M_of_110 (fun v8 => ?_)
        exact R_iret C rfl d_M_of_111
      refine R_ite (fun e29 => ?_) (fun e29 => ?_)
      · refine R_tsw C e29 d_M_of_33 (tgt := 112) (by decide +kernel) (by decide +kernel) rfl (by decide) ?_
        refine R_aload_n C 0 d_M_of_112 rfl rfl ?_
        refine R_aload_n C 0 d_M_of_113 rfl rfl ?_
        refine gf_M_gone C fl_M_13 d_M_of_114 ?_
        refine R_iload_n C 1 d_M_of_117 rfl rfl ?_
        refine R_bind (fun v9 h10 => ?_)
        refine R_callV C mm_0 (mc_0 q _ _) rfl cf_M_has rfl ml_M_221 im_M_has sl_M_M_has_M_has (c_M_has (gk C) h10) (by decide) (by decide) rfl rfl (Nat.le_of_ble_eq_true rfl) d_M_of_118 ?_
        refine R_if_eq C d_M_of_121 (tgt := 128) (by decide) ?_ ?_
        · skip
          refine R_iconst C d_M_of_128 (v := 0) (by decide +kernel) ?_
          exact R_iret C rfl d_M_of_129
        · skip
          refine R_iconst C d_M_of_124 (v := 1) (by decide +kernel) ?_
          refine R_goto C d_M_of_125 (tgt := 129) (by decide) ?_
          exact R_iret C rfl d_M_of_129
      refine R_ite (fun e30 => ?_) (fun e30 => ?_)
      · refine R_tsw C e30 d_M_of_33 (tgt := 130) (by decide +kernel) (by decide +kernel) rfl (by decide) ?_
        refine R_aload_n C 0 d_M_of_130 rfl rfl ?_
        refine R_iload_n C 1 d_M_of_131 rfl rfl ?_
        refine R_bind (fun v11 h12 => ?_)
        refine R_callV C mm_0 (mc_0 q _ _) rfl cf_M_beside rfl ml_M_325 im_M_beside sl_M_M_beside_M_beside (c_M_beside (gk C) h12) (by decide) (by decide) rfl rfl (Nat.le_of_ble_eq_true rfl) d_M_of_132 ?_
        exact R_iret C rfl d_M_of_135
      refine R_ite (fun e31 => ?_) (fun e31 => ?_)
      · refine R_tsw C e31 d_M_of_33 (tgt := 136) (by decide +kernel) (by decide +kernel) rfl (by decide) ?_
        refine R_aload_n C 0 d_M_of_136 rfl rfl ?_
        refine R_iload_n C 1 d_M_of_137 rfl rfl ?_
        refine R_bind (fun r_ h15 => ?_)
        obtain ⟨v13, μ14⟩ := r_
        refine R_callV C mm_0 (mc_0 q _ _) rfl cf_M_voice rfl ml_M_334 im_M_voice sl_M_M_voice_M_voice (c_M_voice (gk C) h15) (by decide) (by decide) rfl rfl (Nat.le_of_ble_eq_true rfl) d_M_of_138 ?_
        exact R_iret C rfl d_M_of_141
      refine R_ite (fun e32 => ?_) (fun e32 => ?_)
      · refine R_tsw C e32 d_M_of_33 (tgt := 142) (by decide +kernel) (by decide +kernel) rfl (by decide) ?_
        refine R_aload_n C 0 d_M_of_142 rfl rfl ?_
        refine R_iload_n C 1 d_M_of_143 rfl rfl ?_
        refine R_bind (fun r_ h18 => ?_)
        obtain ⟨v16, μ17⟩ := r_
        refine R_callV C mm_0 (mc_0 q _ _) rfl cf_M_talk rfl ml_M_340 im_M_talk sl_M_M_talk_M_talk (c_M_talk (gk C) h18) (by decide) (by decide) rfl rfl (Nat.le_of_ble_eq_true rfl) d_M_of_144 ?_
        exact R_iret C rfl d_M_of_147
      refine R_ite (fun e33 => ?_) (fun e33 => ?_)
      · refine R_tsw C e33 d_M_of_33 (tgt := 148) (by decide +kernel) (by decide +kernel) rfl (by decide) ?_
        refine R_aload_n C 0 d_M_of_148 rfl rfl ?_
        refine R_iload_n C 1 d_M_of_149 rfl rfl ?_
        refine R_bind (fun r_ h21 => ?_)
        obtain ⟨v19, μ20⟩ := r_
        refine R_callV C mm_0 (mc_0 q _ _) rfl cf_M_learns rfl ml_M_349 im_M_learns sl_M_M_learns_M_learns (c_M_learns (gk C) h21) (by decide) (by decide) rfl rfl (Nat.le_of_ble_eq_true rfl) d_M_of_150 ?_
        exact R_iret C rfl d_M_of_153
      refine R_tswd C d_M_of_33 (tgt := 154) (sw_out (L := [0, 1, 2, 3, 4, 5, 6, 7, 8]) (n := 9) (by decide +kernel) (by decide +kernel) (List.forall_mem_cons.mpr ⟨e25, List.forall_mem_cons.mpr ⟨e26, List.forall_mem_cons.mpr ⟨e27, List.forall_mem_cons.mpr ⟨e28, List.forall_mem_cons.mpr ⟨e29, List.forall_mem_cons.mpr ⟨e30, List.forall_mem_cons.mpr ⟨e31, List.forall_mem_cons.mpr ⟨e32, List.forall_mem_cons.mpr ⟨e33, fun _ h => absurd h List.not_mem_nil⟩⟩⟩⟩⟩⟩⟩⟩⟩)) (by decide) ?_
      refine R_iconst C d_M_of_154 (v := (-1)) (by decide +kernel) ?_
      exact R_iret C rfl d_M_of_155
    · skip
      refine R_aload_n C 0 d_M_of_22 rfl rfl ?_
      refine R_iload_n C 1 d_M_of_23 rfl rfl ?_
      refine R_iload_n C 2 d_M_of_24 rfl rfl ?_
      refine R_bipush C d_M_of_25 (v := 10) (by decide +kernel) ?_
      refine R_isub C d_M_of_27 ?_
      refine R_bind (fun r_ h24 => ?_)
      obtain ⟨v22, μ23⟩ := r_
      refine R_callV C mm_0 (mc_0 q _ _) rfl cf_M_mouth rfl ml_M_331 im_M_mouth sl_M_M_mouth_M_mouth (c_M_mouth (gk C) h24) (by decide) (by decide) rfl rfl (Nat.le_of_ble_eq_true rfl) d_M_of_28 ?_
      exact R_iret C rfl d_M_of_31
  · skip
    refine R_iconst C d_M_of_8 (v := (-1)) (by decide +kernel) ?_
    exact R_iret C rfl d_M_of_9
theorem c_M_of {q : QT} (hg : GOk sdM q) {a1 : Int32} {a2 : Int32} {μ : Mm} {ν : Ml} {o : Int32 × Mm} (ho : F_M_of a1 a2 μ = some o) : Ct sdM q y_M_of prog_14_method_54_code 3 (some (FieldType.int)) 7 [.ref (q.2.2.1 0), .int a1, .int a2] μ ν ((φIm ν) o).1 ((φIm ν) o).2.1 ((φIm ν) o).2.2 := Ct_of rfl hg (fun z C => w_M_of C) (Nat.le_of_ble_eq_true rfl) ho
