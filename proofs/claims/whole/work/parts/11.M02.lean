def L_M_putBack_33 (k : Mm → Option (Mm)) : Nat → Int32 → Mm → Option (Mm)
  | 0, _, _ => none
  | n + 1, s5, μ6 => (if 6 ≤ s5 then k μ6 else (rdI (μ6 31) 6 s5).bind fun v7 => (wrI μ6 6 6 s5 v7).bind fun μ8 => (rdI (μ8 32) 6 s5).bind fun v9 => (wrI μ8 7 6 s5 v9).bind fun μ10 => L_M_putBack_33 k n (s5 + 1) μ10)
def F_M_putBack (μ : Mm) : Option (Mm) := lt_ (up2 μ 0 27 9999) fun μ1 => lt_ (up2 μ1 0 1 (μ1 0 28)) fun μ2 => lt_ (up2 μ2 0 2 (μ2 0 29)) fun μ3 => lt_ (up2 μ3 0 3 (μ3 0 30)) fun μ4 => L_M_putBack_33 (fun (μ11 : Mm) => some μ11) fu 0 μ4
theorem d_M_putBack_0 : decode prog_14_method_60_code 0 = .ok (.aload_n 0, 1) := by decide +kernel
theorem d_M_putBack_1 : decode prog_14_method_60_code 1 = .ok (.sipush 9999, 3) := by decide +kernel
theorem d_M_putBack_7 : decode prog_14_method_60_code 7 = .ok (.aload_n 0, 1) := by decide +kernel
theorem d_M_putBack_8 : decode prog_14_method_60_code 8 = .ok (.aload_n 0, 1) := by decide +kernel
theorem d_M_putBack_15 : decode prog_14_method_60_code 15 = .ok (.aload_n 0, 1) := by decide +kernel
theorem d_M_putBack_16 : decode prog_14_method_60_code 16 = .ok (.aload_n 0, 1) := by decide +kernel
theorem d_M_putBack_23 : decode prog_14_method_60_code 23 = .ok (.aload_n 0, 1) := by decide +kernel
theorem d_M_putBack_24 : decode prog_14_method_60_code 24 = .ok (.aload_n 0, 1) := by decide +kernel
theorem d_M_putBack_31 : decode prog_14_method_60_code 31 = .ok (.iconst 0, 1) := by decide +kernel
theorem d_M_putBack_32 : decode prog_14_method_60_code 32 = .ok (.istore_n 1, 1) := by decide +kernel
theorem d_M_putBack_33 : decode prog_14_method_60_code 33 = .ok (.iload_n 1, 1) := by decide +kernel
theorem d_M_putBack_34 : decode prog_14_method_60_code 34 = .ok (.bipush 6, 2) := by decide +kernel
theorem d_M_putBack_39 : decode prog_14_method_60_code 39 = .ok (.aload_n 0, 1) := by decide +kernel
theorem d_M_putBack_43 : decode prog_14_method_60_code 43 = .ok (.iload_n 1, 1) := by decide +kernel
theorem d_M_putBack_44 : decode prog_14_method_60_code 44 = .ok (.aload_n 0, 1) := by decide +kernel
theorem d_M_putBack_48 : decode prog_14_method_60_code 48 = .ok (.iload_n 1, 1) := by decide +kernel
theorem d_M_putBack_51 : decode prog_14_method_60_code 51 = .ok (.aload_n 0, 1) := by decide +kernel
theorem d_M_putBack_55 : decode prog_14_method_60_code 55 = .ok (.iload_n 1, 1) := by decide +kernel
theorem d_M_putBack_56 : decode prog_14_method_60_code 56 = .ok (.aload_n 0, 1) := by decide +kernel
theorem d_M_putBack_60 : decode prog_14_method_60_code 60 = .ok (.iload_n 1, 1) := by decide +kernel
theorem d_M_putBack_63 : decode prog_14_method_60_code 63 = .ok (.iinc 1 1, 3) := by decide +kernel
theorem d_M_putBack_66 : decode prog_14_method_60_code 66 = .ok (.goto (-33), 3) := by decide +kernel
theorem d_M_putBack_62 : decode prog_14_method_60_code 62 = .ok (.iastore, 1) := by decide +kernel
theorem d_M_putBack_57 : decode prog_14_method_60_code 57 = .ok (.getfield 108, 3) := by decide +kernel
theorem d_M_putBack_52 : decode prog_14_method_60_code 52 = .ok (.getfield 32, 3) := by decide +kernel
theorem d_M_putBack_50 : decode prog_14_method_60_code 50 = .ok (.iastore, 1) := by decide +kernel
theorem d_M_putBack_45 : decode prog_14_method_60_code 45 = .ok (.getfield 105, 3) := by decide +kernel
theorem d_M_putBack_40 : decode prog_14_method_60_code 40 = .ok (.getfield 29, 3) := by decide +kernel
theorem d_M_putBack_36 : decode prog_14_method_60_code 36 = .ok (.if_icmp .ge 33, 3) := by decide +kernel
theorem d_M_putBack_49 : decode prog_14_method_60_code 49 = .ok (.iaload, 1) := by decide +kernel
theorem d_M_putBack_61 : decode prog_14_method_60_code 61 = .ok (.iaload, 1) := by decide +kernel
set_option maxRecDepth 10000 in
set_option maxHeartbeats 4000000 in
theorem W_M_putBack_33 {q : QT} {z : ZT} {ν : Ml} {k : Mm → Option (Mm)} (C : Ctx sdM q z prog_14_method_60_code "BesideTomModel" 2 0 none) (hk : ∀ (me_ : Mm), R sdM q z 2 (φVm ν) (k me_) me_ ν 69 [] []) : ∀ (n : Nat) (s5 : Int32) (μ6 : Mm), R sdM q z 2 (φVm ν) (L_M_putBack_33 k n s5 μ6) μ6 ν 33 [(1, .int s5), (0, .ref (q.2.2.1 0))] [] := by
  intro n
  induction n with
  | zero =>
    intros
    exact R_none
  | succ n ih =>
    intro s5 μ6
    rw [L_M_putBack_33]
    refine R_iload_n C 0 d_M_putBack_33 rfl rfl ?_
    refine R_bipush C d_M_putBack_34 (v := 6) (by decide +kernel) ?_
    refine R_icmp_ge C d_M_putBack_36 (tgt := 69) (by decide) ?_ ?_
    · skip
      exact R_sub [] rfl (hk μ6)
    · skip
      refine R_aload_n C 1 d_M_putBack_39 rfl rfl ?_
      refine gf_M_desk C fl_M_29 d_M_putBack_40 ?_
      refine R_iload_n C 0 d_M_putBack_43 rfl rfl ?_
      refine R_aload_n C 1 d_M_putBack_44 rfl rfl ?_
      refine gf_M_keptDesk C fl_M_105 d_M_putBack_45 ?_
      refine R_iload_n C 0 d_M_putBack_48 rfl rfl ?_
      refine R_iald C mm_31 (mc_31 q _ _) d_M_putBack_49 (fun v7 => ?_)
      refine R_iast C mm_6 (fun h => mc_6 q h _) d_M_putBack_50 (fun μ8 => ?_)
      refine R_aload_n C 1 d_M_putBack_51 rfl rfl ?_
      refine gf_M_knew C fl_M_32 d_M_putBack_52 ?_
      refine R_iload_n C 0 d_M_putBack_55 rfl rfl ?_
      refine R_aload_n C 1 d_M_putBack_56 rfl rfl ?_
      refine gf_M_keptKnew C fl_M_108 d_M_putBack_57 ?_
      refine R_iload_n C 0 d_M_putBack_60 rfl rfl ?_
      refine R_iald C mm_32 (mc_32 q _ _) d_M_putBack_61 (fun v9 => ?_)
      refine R_iast C mm_7 (fun h => mc_7 q h _) d_M_putBack_62 (fun μ10 => ?_)
      refine R_iinc C 0 d_M_putBack_63 rfl (iinc_v _ (v := 1) (by decide +kernel)) (lv' := [(1, .int (s5 + 1)), (0, .ref (q.2.2.1 0))]) (by decide) rfl ?_
      refine R_goto C d_M_putBack_66 (tgt := 33) (by decide) ?_
      exact R_sub [0, 1] rfl (ih (s5 + 1) μ10)
theorem d_M_putBack_69 : decode prog_14_method_60_code 69 = .ok (.return_, 1) := by decide +kernel
theorem d_M_putBack_25 : decode prog_14_method_60_code 25 = .ok (.getfield 102, 3) := by decide +kernel
theorem d_M_putBack_17 : decode prog_14_method_60_code 17 = .ok (.getfield 99, 3) := by decide +kernel
theorem d_M_putBack_9 : decode prog_14_method_60_code 9 = .ok (.getfield 96, 3) := by decide +kernel
theorem d_M_putBack_4 : decode prog_14_method_60_code 4 = .ok (.putfield 93, 3) := by decide +kernel
theorem d_M_putBack_12 : decode prog_14_method_60_code 12 = .ok (.putfield 13, 3) := by decide +kernel
theorem d_M_putBack_20 : decode prog_14_method_60_code 20 = .ok (.putfield 16, 3) := by decide +kernel
theorem d_M_putBack_28 : decode prog_14_method_60_code 28 = .ok (.putfield 19, 3) := by decide +kernel
set_option maxRecDepth 10000 in
set_option maxHeartbeats 4000000 in
theorem w_M_putBack {q : QT} {z : ZT} {μ : Mm} {ν : Ml} (C : Ctx sdM q z prog_14_method_60_code "BesideTomModel" 2 0 none) : R sdM q z 2 (φVm ν) (F_M_putBack μ) μ ν 0 [(0, .ref (q.2.2.1 0))] [] := by
  unfold F_M_putBack
  refine R_aload_n C 0 d_M_putBack_0 rfl rfl ?_
  refine R_sipush C d_M_putBack_1 (v := 9999) (by decide +kernel) ?_
  refine pf_M_mostKnown C fl_M_93 d_M_putBack_4 (fun μ1 => ?_)
  refine R_aload_n C 0 d_M_putBack_7 rfl rfl ?_
  refine R_aload_n C 0 d_M_putBack_8 rfl rfl ?_
  refine gf_M_keptGone C fl_M_96 d_M_putBack_9 ?_
  refine pf_M_gone C fl_M_13 d_M_putBack_12 (fun μ2 => ?_)
  refine R_aload_n C 0 d_M_putBack_15 rfl rfl ?_
  refine R_aload_n C 0 d_M_putBack_16 rfl rfl ?_
  refine gf_M_keptWorn C fl_M_99 d_M_putBack_17 ?_
  refine pf_M_worn C fl_M_16 d_M_putBack_20 (fun μ3 => ?_)
  refine R_aload_n C 0 d_M_putBack_23 rfl rfl ?_
  refine R_aload_n C 0 d_M_putBack_24 rfl rfl ?_
  refine gf_M_keptWeeks C fl_M_102 d_M_putBack_25 ?_
  refine pf_M_weeks C fl_M_19 d_M_putBack_28 (fun μ4 => ?_)
  refine R_iconst C d_M_putBack_31 (v := 0) (by decide +kernel) ?_
  refine R_istore_n C (lv' := [(1, .int 0), (0, .ref (q.2.2.1 0))]) d_M_putBack_32 rfl (by decide) rfl ?_
  refine R_sub [0, 1] rfl ?_
  refine W_M_putBack_33 C ?_ fu _ _
  intro μ11
  exact R_vret C rfl d_M_putBack_69
theorem c_M_putBack {q : QT} (hg : GOk sdM q) {μ : Mm} {ν : Ml} {o : Mm} (ho : F_M_putBack μ = some o) : Ct sdM q y_M_putBack prog_14_method_60_code 2 none 0 [.ref (q.2.2.1 0)] μ ν ((φVm ν) o).1 ((φVm ν) o).2.1 ((φVm ν) o).2.2 := Ct_of rfl hg (fun z C => w_M_putBack C) (Nat.le_of_ble_eq_true rfl) ho
def L_M_save_33 (k : Mm → Option (Mm)) : Nat → Int32 → Mm → Option (Mm)
  | 0, _, _ => none
  | n + 1, s5, μ6 => (if 6 ≤ s5 then k μ6 else (rdI (μ6 6) 6 s5).bind fun v7 => (wrI μ6 31 6 s5 v7).bind fun μ8 => (rdI (μ8 7) 6 s5).bind fun v9 => (wrI μ8 32 6 s5 v9).bind fun μ10 => L_M_save_33 k n (s5 + 1) μ10)
def F_M_save (μ : Mm) : Option (Mm) := lt_ (up2 μ 0 27 (2000000000)) fun μ1 => lt_ (up2 μ1 0 28 (μ1 0 1)) fun μ2 => lt_ (up2 μ2 0 29 (μ2 0 2)) fun μ3 => lt_ (up2 μ3 0 30 (μ3 0 3)) fun μ4 => L_M_save_33 (fun (μ11 : Mm) => some μ11) fu 0 μ4
theorem d_M_save_0 : decode prog_14_method_59_code 0 = .ok (.aload_n 0, 1) := by decide +kernel
theorem d_M_save_1 : decode prog_14_method_59_code 1 = .ok (.ldc_w 370, 3) := by decide +kernel
theorem d_M_save_7 : decode prog_14_method_59_code 7 = .ok (.aload_n 0, 1) := by decide +kernel
theorem d_M_save_8 : decode prog_14_method_59_code 8 = .ok (.aload_n 0, 1) := by decide +kernel
theorem d_M_save_15 : decode prog_14_method_59_code 15 = .ok (.aload_n 0, 1) := by decide +kernel
theorem d_M_save_16 : decode prog_14_method_59_code 16 = .ok (.aload_n 0, 1) := by decide +kernel
theorem d_M_save_23 : decode prog_14_method_59_code 23 = .ok (.aload_n 0, 1) := by decide +kernel
theorem d_M_save_24 : decode prog_14_method_59_code 24 = .ok (.aload_n 0, 1) := by decide +kernel
theorem d_M_save_31 : decode prog_14_method_59_code 31 = .ok (.iconst 0, 1) := by decide +kernel
theorem d_M_save_32 : decode prog_14_method_59_code 32 = .ok (.istore_n 1, 1) := by decide +kernel
theorem d_M_save_33 : decode prog_14_method_59_code 33 = .ok (.iload_n 1, 1) := by decide +kernel
theorem d_M_save_34 : decode prog_14_method_59_code 34 = .ok (.bipush 6, 2) := by decide +kernel
theorem d_M_save_39 : decode prog_14_method_59_code 39 = .ok (.aload_n 0, 1) := by decide +kernel
theorem d_M_save_43 : decode prog_14_method_59_code 43 = .ok (.iload_n 1, 1) := by decide +kernel
theorem d_M_save_44 : decode prog_14_method_59_code 44 = .ok (.aload_n 0, 1) := by decide +kernel
theorem d_M_save_48 : decode prog_14_method_59_code 48 = .ok (.iload_n 1, 1) := by decide +kernel
theorem d_M_save_51 : decode prog_14_method_59_code 51 = .ok (.aload_n 0, 1) := by decide +kernel
theorem d_M_save_55 : decode prog_14_method_59_code 55 = .ok (.iload_n 1, 1) := by decide +kernel
theorem d_M_save_56 : decode prog_14_method_59_code 56 = .ok (.aload_n 0, 1) := by decide +kernel
theorem d_M_save_60 : decode prog_14_method_59_code 60 = .ok (.iload_n 1, 1) := by decide +kernel
theorem d_M_save_63 : decode prog_14_method_59_code 63 = .ok (.iinc 1 1, 3) := by decide +kernel
theorem d_M_save_66 : decode prog_14_method_59_code 66 = .ok (.goto (-33), 3) := by decide +kernel
theorem d_M_save_62 : decode prog_14_method_59_code 62 = .ok (.iastore, 1) := by decide +kernel
theorem d_M_save_57 : decode prog_14_method_59_code 57 = .ok (.getfield 32, 3) := by decide +kernel
theorem d_M_save_52 : decode prog_14_method_59_code 52 = .ok (.getfield 108, 3) := by decide +kernel
theorem d_M_save_50 : decode prog_14_method_59_code 50 = .ok (.iastore, 1) := by decide +kernel
theorem d_M_save_45 : decode prog_14_method_59_code 45 = .ok (.getfield 29, 3) := by decide +kernel
theorem d_M_save_40 : decode prog_14_method_59_code 40 = .ok (.getfield 105, 3) := by decide +kernel
theorem d_M_save_36 : decode prog_14_method_59_code 36 = .ok (.if_icmp .ge 33, 3) := by decide +kernel
theorem d_M_save_49 : decode prog_14_method_59_code 49 = .ok (.iaload, 1) := by decide +kernel
theorem d_M_save_61 : decode prog_14_method_59_code 61 = .ok (.iaload, 1) := by decide +kernel
set_option maxRecDepth 10000 in
set_option maxHeartbeats 4000000 in
theorem W_M_save_33 {q : QT} {z : ZT} {ν : Ml} {k : Mm → Option (Mm)} (C : Ctx sdM q z prog_14_method_59_code "BesideTomModel" 2 0 none) (hk : ∀ (me_ : Mm), R sdM q z 2 (φVm ν) (k me_) me_ ν 69 [] []) : ∀ (n : Nat) (s5 : Int32) (μ6 : Mm), R sdM q z 2 (φVm ν) (L_M_save_33 k n s5 μ6) μ6 ν 33 [(1, .int s5), (0, .ref (q.2.2.1 0))] [] := by
  intro n
  induction n with
  | zero =>
    intros
    exact R_none
  | succ n ih =>
    intro s5 μ6
    rw [L_M_save_33]
    refine R_iload_n C 0 d_M_save_33 rfl rfl ?_
    refine R_bipush C d_M_save_34 (v := 6) (by decide +kernel) ?_
    refine R_icmp_ge C d_M_save_36 (tgt := 69) (by decide) ?_ ?_
    · skip
      exact R_sub [] rfl (hk μ6)
    · skip
      refine R_aload_n C 1 d_M_save_39 rfl rfl ?_
      refine gf_M_keptDesk C fl_M_105 d_M_save_40 ?_
      refine R_iload_n C 0 d_M_save_43 rfl rfl ?_
      refine R_aload_n C 1 d_M_save_44 rfl rfl ?_
      refine gf_M_desk C fl_M_29 d_M_save_45 ?_
      refine R_iload_n C 0 d_M_save_48 rfl rfl ?_
      refine R_iald C mm_6 (mc_6 q _ _) d_M_save_49 (fun v7 => ?_)
      refine R_iast C mm_31 (fun h => mc_31 q h _) d_M_save_50 (fun μ8 => ?_)
      refine R_aload_n C 1 d_M_save_51 rfl rfl ?_
      refine gf_M_keptKnew C fl_M_108 d_M_save_52 ?_
      refine R_iload_n C 0 d_M_save_55 rfl rfl ?_
      refine R_aload_n C 1 d_M_save_56 rfl rfl ?_
      refine gf_M_knew C fl_M_32 d_M_save_57 ?_
      refine R_iload_n C 0 d_M_save_60 rfl rfl ?_
      refine R_iald C mm_7 (mc_7 q _ _) d_M_save_61 (fun v9 => ?_)
      refine R_iast C mm_32 (fun h => mc_32 q h _) d_M_save_62 (fun μ10 => ?_)
      refine R_iinc C 0 d_M_save_63 rfl (iinc_v _ (v := 1) (by decide +kernel)) (lv' := [(1, .int (s5 + 1)), (0, .ref (q.2.2.1 0))]) (by decide) rfl ?_
      refine R_goto C d_M_save_66 (tgt := 33) (by decide) ?_
      exact R_sub [0, 1] rfl (ih (s5 + 1) μ10)
theorem d_M_save_69 : decode prog_14_method_59_code 69 = .ok (.return_, 1) := by decide +kernel
theorem d_M_save_25 : decode prog_14_method_59_code 25 = .ok (.getfield 19, 3) := by decide +kernel
theorem d_M_save_17 : decode prog_14_method_59_code 17 = .ok (.getfield 16, 3) := by decide +kernel
theorem d_M_save_9 : decode prog_14_method_59_code 9 = .ok (.getfield 13, 3) := by decide +kernel
theorem d_M_save_4 : decode prog_14_method_59_code 4 = .ok (.putfield 93, 3) := by decide +kernel
theorem d_M_save_12 : decode prog_14_method_59_code 12 = .ok (.putfield 96, 3) := by decide +kernel
theorem d_M_save_20 : decode prog_14_method_59_code 20 = .ok (.putfield 99, 3) := by decide +kernel
theorem d_M_save_28 : decode prog_14_method_59_code 28 = .ok (.putfield 102, 3) := by decide +kernel
set_option maxRecDepth 10000 in
set_option maxHeartbeats 4000000 in
theorem w_M_save {q : QT} {z : ZT} {μ : Mm} {ν : Ml} (C : Ctx sdM q z prog_14_method_59_code "BesideTomModel" 2 0 none) : R sdM q z 2 (φVm ν) (F_M_save μ) μ ν 0 [(0, .ref (q.2.2.1 0))] [] := by
  unfold F_M_save
  refine R_aload_n C 0 d_M_save_0 rfl rfl ?_
  refine R_ldcw C k_M_370 d_M_save_1 ?_
  refine pf_M_mostKnown C fl_M_93 d_M_save_4 (fun μ1 => ?_)
  refine R_aload_n C 0 d_M_save_7 rfl rfl ?_
  refine R_aload_n C 0 d_M_save_8 rfl rfl ?_
  refine gf_M_gone C fl_M_13 d_M_save_9 ?_
  refine pf_M_keptGone C fl_M_96 d_M_save_12 (fun μ2 => ?_)
  refine R_aload_n C 0 d_M_save_15 rfl rfl ?_
  refine R_aload_n C 0 d_M_save_16 rfl rfl ?_
  refine gf_M_worn C fl_M_16 d_M_save_17 ?_
  refine pf_M_keptWorn C fl_M_99 d_M_save_20 (fun μ3 => ?_)
  refine R_aload_n C 0 d_M_save_23 rfl rfl ?_
  refine R_aload_n C 0 d_M_save_24 rfl rfl ?_
  refine gf_M_weeks C fl_M_19 d_M_save_25 ?_
  refine pf_M_keptWeeks C fl_M_102 d_M_save_28 (fun μ4 => ?_)
  refine R_iconst C d_M_save_31 (v := 0) (by decide +kernel) ?_
  refine R_istore_n C (lv' := [(1, .int 0), (0, .ref (q.2.2.1 0))]) d_M_save_32 rfl (by decide) rfl ?_
  refine R_sub [0, 1] rfl ?_
  refine W_M_save_33 C ?_ fu _ _
  intro μ11
  exact R_vret C rfl d_M_save_69
theorem c_M_save {q : QT} (hg : GOk sdM q) {μ : Mm} {ν : Ml} {o : Mm} (ho : F_M_save μ = some o) : Ct sdM q y_M_save prog_14_method_59_code 2 none 0 [.ref (q.2.2.1 0)] μ ν ((φVm ν) o).1 ((φVm ν) o).2.1 ((φVm ν) o).2.2 := Ct_of rfl hg (fun z C => w_M_save C) (Nat.le_of_ble_eq_true rfl) ho
def F_M_second (μ : Mm) : Option (Int32) := (if (μ 0 11) ≤ ((μ 0 12) + 1) then some (-1) else (rdI (μ 14) 100 ((μ 0 12) + 1)).bind fun v1 => some v1)
theorem d_M_second_0 : decode prog_14_method_22_code 0 = .ok (.aload_n 0, 1) := by decide +kernel
theorem d_M_second_4 : decode prog_14_method_22_code 4 = .ok (.iconst 1, 1) := by decide +kernel
theorem d_M_second_5 : decode prog_14_method_22_code 5 = .ok (.iadd, 1) := by decide +kernel
theorem d_M_second_6 : decode prog_14_method_22_code 6 = .ok (.aload_n 0, 1) := by decide +kernel
theorem d_M_second_27 : decode prog_14_method_22_code 27 = .ok (.iconst (-1), 1) := by decide +kernel
theorem d_M_second_28 : decode prog_14_method_22_code 28 = .ok (.ireturn, 1) := by decide +kernel
theorem d_M_second_13 : decode prog_14_method_22_code 13 = .ok (.aload_n 0, 1) := by decide +kernel
theorem d_M_second_17 : decode prog_14_method_22_code 17 = .ok (.aload_n 0, 1) := by decide +kernel
theorem d_M_second_21 : decode prog_14_method_22_code 21 = .ok (.iconst 1, 1) := by decide +kernel
theorem d_M_second_22 : decode prog_14_method_22_code 22 = .ok (.iadd, 1) := by decide +kernel
theorem d_M_second_24 : decode prog_14_method_22_code 24 = .ok (.goto 4, 3) := by decide +kernel
theorem d_M_second_18 : decode prog_14_method_22_code 18 = .ok (.getfield 47, 3) := by decide +kernel
theorem d_M_second_14 : decode prog_14_method_22_code 14 = .ok (.getfield 53, 3) := by decide +kernel
theorem d_M_second_10 : decode prog_14_method_22_code 10 = .ok (.if_icmp .ge 17, 3) := by decide +kernel
theorem d_M_second_7 : decode prog_14_method_22_code 7 = .ok (.getfield 44, 3) := by decide +kernel
theorem d_M_second_1 : decode prog_14_method_22_code 1 = .ok (.getfield 47, 3) := by decide +kernel
theorem d_M_second_23 : decode prog_14_method_22_code 23 = .ok (.iaload, 1) := by decide +kernel
set_option maxRecDepth 10000 in
set_option maxHeartbeats 4000000 in
theorem w_M_second {q : QT} {z : ZT} {μ : Mm} {ν : Ml} (C : Ctx sdM q z prog_14_method_22_code "BesideTomModel" 1 0 (some (FieldType.int))) : R sdM q z 1 (φI μ ν) (F_M_second μ) μ ν 0 [(0, .ref (q.2.2.1 0))] [] := by
  unfold F_M_second
  refine R_aload_n C 0 d_M_second_0 rfl rfl ?_
  refine gf_M_at C fl_M_47 d_M_second_1 ?_
  refine R_iconst C d_M_second_4 (v := 1) (by decide +kernel) ?_
  refine R_iadd C d_M_second_5 ?_
  refine R_aload_n C 0 d_M_second_6 rfl rfl ?_
  refine gf_M_fed C fl_M_44 d_M_second_7 ?_
  refine R_icmp_ge C d_M_second_10 (tgt := 27) (by decide) ?_ ?_
  · skip
    refine R_iconst C d_M_second_27 (v := (-1)) (by decide +kernel) ?_
    exact R_iret C rfl d_M_second_28
  · skip
    refine R_aload_n C 0 d_M_second_13 rfl rfl ?_
    refine gf_M_text C fl_M_53 d_M_second_14 ?_
    refine R_aload_n C 0 d_M_second_17 rfl rfl ?_
    refine gf_M_at C fl_M_47 d_M_second_18 ?_
    refine R_iconst C d_M_second_21 (v := 1) (by decide +kernel) ?_
    refine R_iadd C d_M_second_22 ?_
    refine R_iald C mm_14 (mc_14 q _ _) d_M_second_23 (fun v1 => ?_)
    refine R_goto C d_M_second_24 (tgt := 28) (by decide) ?_
    exact R_iret C rfl d_M_second_28
theorem c_M_second {q : QT} (hg : GOk sdM q) {μ : Mm} {ν : Ml} {o : Int32} (ho : F_M_second μ = some o) : Ct sdM q y_M_second prog_14_method_22_code 1 (some (FieldType.int)) 0 [.ref (q.2.2.1 0)] μ ν ((φI μ ν) o).1 ((φI μ ν) o).2.1 ((φI μ ν) o).2.2 := Ct_of rfl hg (fun z C => w_M_second C) (Nat.le_of_ble_eq_true rfl) ho
def F_M_swaps (a1 : Int32) (μ : Mm) : Option (Mm) := (rdI (μ 6) 6 (a1 / 6)).bind fun v1 => (rdI (μ 6) 6 (a1 - a1 / 6 * 6)).bind fun v2 => (wrI μ 6 6 (a1 / 6) v2).bind fun μ3 => (wrI μ3 6 6 (a1 - a1 / 6 * 6) v1).bind fun μ4 => some μ4
theorem d_M_swaps_0 : decode prog_14_method_73_code 0 = .ok (.aload_n 0, 1) := by decide +kernel
theorem d_M_swaps_4 : decode prog_14_method_73_code 4 = .ok (.iload_n 1, 1) := by decide +kernel
theorem d_M_swaps_5 : decode prog_14_method_73_code 5 = .ok (.bipush 6, 2) := by decide +kernel
theorem d_M_swaps_9 : decode prog_14_method_73_code 9 = .ok (.istore_n 2, 1) := by decide +kernel
theorem d_M_swaps_10 : decode prog_14_method_73_code 10 = .ok (.aload_n 0, 1) := by decide +kernel
theorem d_M_swaps_14 : decode prog_14_method_73_code 14 = .ok (.iload_n 1, 1) := by decide +kernel
theorem d_M_swaps_15 : decode prog_14_method_73_code 15 = .ok (.bipush 6, 2) := by decide +kernel
theorem d_M_swaps_18 : decode prog_14_method_73_code 18 = .ok (.aload_n 0, 1) := by decide +kernel
theorem d_M_swaps_22 : decode prog_14_method_73_code 22 = .ok (.iload_n 1, 1) := by decide +kernel
theorem d_M_swaps_23 : decode prog_14_method_73_code 23 = .ok (.bipush 6, 2) := by decide +kernel
theorem d_M_swaps_28 : decode prog_14_method_73_code 28 = .ok (.aload_n 0, 1) := by decide +kernel
theorem d_M_swaps_32 : decode prog_14_method_73_code 32 = .ok (.iload_n 1, 1) := by decide +kernel
theorem d_M_swaps_33 : decode prog_14_method_73_code 33 = .ok (.bipush 6, 2) := by decide +kernel
theorem d_M_swaps_36 : decode prog_14_method_73_code 36 = .ok (.iload_n 2, 1) := by decide +kernel
theorem d_M_swaps_38 : decode prog_14_method_73_code 38 = .ok (.return_, 1) := by decide +kernel
theorem d_M_swaps_37 : decode prog_14_method_73_code 37 = .ok (.iastore, 1) := by decide +kernel
theorem d_M_swaps_35 : decode prog_14_method_73_code 35 = .ok (.irem, 1) := by decide +kernel
theorem d_M_swaps_29 : decode prog_14_method_73_code 29 = .ok (.getfield 29, 3) := by decide +kernel
theorem d_M_swaps_27 : decode prog_14_method_73_code 27 = .ok (.iastore, 1) := by decide +kernel
theorem d_M_swaps_25 : decode prog_14_method_73_code 25 = .ok (.irem, 1) := by decide +kernel
theorem d_M_swaps_19 : decode prog_14_method_73_code 19 = .ok (.getfield 29, 3) := by decide +kernel
theorem d_M_swaps_17 : decode prog_14_method_73_code 17 = .ok (.idiv, 1) := by decide +kernel
theorem d_M_swaps_11 : decode prog_14_method_73_code 11 = .ok (.getfield 29, 3) := by decide +kernel
theorem d_M_swaps_7 : decode prog_14_method_73_code 7 = .ok (.idiv, 1) := by decide +kernel
theorem d_M_swaps_1 : decode prog_14_method_73_code 1 = .ok (.getfield 29, 3) := by decide +kernel
theorem d_M_swaps_8 : decode prog_14_method_73_code 8 = .ok (.iaload, 1) := by decide +kernel
theorem d_M_swaps_26 : decode prog_14_method_73_code 26 = .ok (.iaload, 1) := by decide +kernel
set_option maxRecDepth 10000 in
set_option maxHeartbeats 4000000 in
theorem w_M_swaps {q : QT} {z : ZT} {a1 : Int32} {μ : Mm} {ν : Ml} (C : Ctx sdM q z prog_14_method_73_code "BesideTomModel" 3 0 none) : R sdM q z 3 (φVm ν) (F_M_swaps a1 μ) μ ν 0 [(0, .ref (q.2.2.1 0)), (1, .int a1)] [] := by
  unfold F_M_swaps
  refine R_aload_n C 0 d_M_swaps_0 rfl rfl ?_
  refine gf_M_desk C fl_M_29 d_M_swaps_1 ?_
  refine R_iload_n C 1 d_M_swaps_4 rfl rfl ?_
  refine R_bipush C d_M_swaps_5 (v := 6) (by decide +kernel) ?_
  refine R_idiv C d_M_swaps_7 (by decide) ?_
  refine R_iald C mm_6 (mc_6 q _ _) d_M_swaps_8 (fun v1 => ?_)
  refine R_istore_n C (lv' := [(2, .int v1), (0, .ref (q.2.2.1 0)), (1, .int a1)]) d_M_swaps_9 rfl (by decide) rfl ?_
  refine R_aload_n C 1 d_M_swaps_10 rfl rfl ?_
  refine gf_M_desk C fl_M_29 d_M_swaps_11 ?_
  refine R_iload_n C 2 d_M_swaps_14 rfl rfl ?_
  refine R_bipush C d_M_swaps_15 (v := 6) (by decide +kernel) ?_
  refine R_idiv C d_M_swaps_17 (by decide) ?_
  refine R_aload_n C 1 d_M_swaps_18 rfl rfl ?_
  refine gf_M_desk C fl_M_29 d_M_swaps_19 ?_
  refine R_iload_n C 2 d_M_swaps_22 rfl rfl ?_
  refine R_bipush C d_M_swaps_23 (v := 6) (by decide +kernel) ?_
  refine R_irem C d_M_swaps_25 (by decide) ?_
  refine R_iald C mm_6 (mc_6 q _ _) d_M_swaps_26 (fun v2 => ?_)
  refine R_iast C mm_6 (fun h => mc_6 q h _) d_M_swaps_27 (fun μ3 => ?_)
  refine R_aload_n C 1 d_M_swaps_28 rfl rfl ?_
  refine gf_M_desk C fl_M_29 d_M_swaps_29 ?_
  refine R_iload_n C 2 d_M_swaps_32 rfl rfl ?_
  refine R_bipush C d_M_swaps_33 (v := 6) (by decide +kernel) ?_
  refine R_irem C d_M_swaps_35 (by decide) ?_
  refine R_iload_n C 0 d_M_swaps_36 rfl rfl ?_
  refine R_iast C mm_6 (fun h => mc_6 q h _) d_M_swaps_37 (fun μ4 => ?_)
  exact R_vret C rfl d_M_swaps_38
theorem c_M_swaps {q : QT} (hg : GOk sdM q) {a1 : Int32} {μ : Mm} {ν : Ml} {o : Mm} (ho : F_M_swaps a1 μ = some o) : Ct sdM q y_M_swaps prog_14_method_73_code 3 none 0 [.ref (q.2.2.1 0), .int a1] μ ν ((φVm ν) o).1 ((φVm ν) o).2.1 ((φVm ν) o).2.2 := Ct_of rfl hg (fun z C => w_M_swaps C) (Nat.le_of_ble_eq_true rfl) ho
def L_M_undo_76 (k : Mm → Option (Int32 × Mm)) : Nat → Int32 → Mm → Option (Int32 × Mm)
  | 0, _, _ => none
  | n + 1, s9, μ10 => (if 6 ≤ s9 then k μ10 else (rdI (μ10 52) 6 s9).bind fun v11 => (wrI μ10 4 6 s9 v11).bind fun μ12 => (rdI (μ12 53) 6 s9).bind fun v13 => (wrI μ12 5 6 s9 v13).bind fun μ14 => (rdI (μ14 54) 6 s9).bind fun v15 => (wrI μ14 6 6 s9 v15).bind fun μ16 => (rdI (μ16 55) 6 s9).bind fun v17 => (wrI μ16 7 6 s9 v17).bind fun μ18 => L_M_undo_76 k n (s9 + 1) μ18)
def L_M_undo_138 (k : Mm → Option (Int32 × Mm)) : Nat → Int32 → Mm → Option (Int32 × Mm)
  | 0, _, _ => none
  | n + 1, s20, μ21 => (if 24 ≤ s20 then k μ21 else (rdI (μ21 56) 24 s20).bind fun v22 => (wrI μ21 8 24 s20 v22).bind fun μ23 => L_M_undo_138 k n (s20 + 1) μ23)
def L_M_undo_164 (k : Mm → Option (Int32 × Mm)) : Nat → Int32 → Mm → Option (Int32 × Mm)
  | 0, _, _ => none
  | n + 1, s25, μ26 => (if 5 ≤ s25 then k μ26 else (rdI (μ26 57) 5 s25).bind fun v27 => (wrI μ26 35 5 s25 v27).bind fun μ28 => (rdI (μ28 58) 5 s25).bind fun v29 => (wrI μ28 36 5 s25 v29).bind fun μ30 => L_M_undo_164 k n (s25 + 1) μ30)
def L_M_undo_201 (k : Mm → Option (Int32 × Mm)) : Nat → Int32 → Mm → Option (Int32 × Mm)
  | 0, _, _ => none
  | n + 1, s32, μ33 => (if 10 ≤ s32 then k μ33 else (rdI (μ33 59) 10 s32).bind fun v34 => (wrI μ33 39 10 s32 v34).bind fun μ35 => (rdI (μ35 60) 10 s32).bind fun v36 => (wrI μ35 40 10 s32 v36).bind fun μ37 => L_M_undo_201 k n (s32 + 1) μ37)
def L_M_undo_239 (k : Mm → Option (Int32 × Mm)) : Nat → Int32 → Mm → Option (Int32 × Mm)
  | 0, _, _ => none
  | n + 1, s39, μ40 => (if 8 ≤ s39 then k μ40 else (rdI (μ40 61) 8 s39).bind fun v41 => (wrI μ40 41 8 s39 v41).bind fun μ42 => (rdI (μ42 62) 8 s39).bind fun v43 => (wrI μ42 42 8 s39 v43).bind fun μ44 => L_M_undo_239 k n (s39 + 1) μ44)
def F_M_undo (μ : Mm) : Option (Int32 × Mm) := (if (μ 0 43) = 0 then some ((-3), μ) else lt_ (up2 μ 0 10 (μ 0 44)) fun μ1 => lt_ (up2 μ1 0 0 (μ1 0 45)) fun μ2 => lt_ (up2 μ2 0 1 (μ2 0 46)) fun μ3 => lt_ (up2 μ3 0 2 (μ3 0 47)) fun μ4 => lt_ (up2 μ4 0 3 (μ4 0 48)) fun μ5 => lt_ (up2 μ5 0 34 (μ5 0 49)) fun μ6 => lt_ (up2 μ6 0 37 (μ6 0 50)) fun μ7 => lt_ (up2 μ7 0 38 (μ7 0 51)) fun μ8 => L_M_undo_76 (fun (μ19 : Mm) => L_M_undo_138 (fun (μ24 : Mm) => L_M_undo_164 (fun (μ31 : Mm) => L_M_undo_201 (fun (μ38 : Mm) => L_M_undo_239 (fun (μ45 : Mm) => some ((μ45 0 0), μ45)) fu 0 μ38) fu 0 μ31) fu 0 μ24) fu 0 μ19) fu 0 μ8)
theorem d_M_undo_0 : decode prog_14_method_91_code 0 = .ok (.aload_n 0, 1) := by decide +kernel
theorem d_M_undo_10 : decode prog_14_method_91_code 10 = .ok (.aload_n 0, 1) := by decide +kernel
theorem d_M_undo_11 : decode prog_14_method_91_code 11 = .ok (.aload_n 0, 1) := by decide +kernel
theorem d_M_undo_18 : decode prog_14_method_91_code 18 = .ok (.aload_n 0, 1) := by decide +kernel
theorem d_M_undo_19 : decode prog_14_method_91_code 19 = .ok (.aload_n 0, 1) := by decide +kernel
theorem d_M_undo_26 : decode prog_14_method_91_code 26 = .ok (.aload_n 0, 1) := by decide +kernel
theorem d_M_undo_27 : decode prog_14_method_91_code 27 = .ok (.aload_n 0, 1) := by decide +kernel
theorem d_M_undo_34 : decode prog_14_method_91_code 34 = .ok (.aload_n 0, 1) := by decide +kernel
theorem d_M_undo_35 : decode prog_14_method_91_code 35 = .ok (.aload_n 0, 1) := by decide +kernel
theorem d_M_undo_42 : decode prog_14_method_91_code 42 = .ok (.aload_n 0, 1) := by decide +kernel
theorem d_M_undo_43 : decode prog_14_method_91_code 43 = .ok (.aload_n 0, 1) := by decide +kernel
theorem d_M_undo_50 : decode prog_14_method_91_code 50 = .ok (.aload_n 0, 1) := by decide +kernel
theorem d_M_undo_51 : decode prog_14_method_91_code 51 = .ok (.aload_n 0, 1) := by decide +kernel
theorem d_M_undo_58 : decode prog_14_method_91_code 58 = .ok (.aload_n 0, 1) := by decide +kernel
theorem d_M_undo_59 : decode prog_14_method_91_code 59 = .ok (.aload_n 0, 1) := by decide +kernel
theorem d_M_undo_66 : decode prog_14_method_91_code 66 = .ok (.aload_n 0, 1) := by decide +kernel
theorem d_M_undo_67 : decode prog_14_method_91_code 67 = .ok (.aload_n 0, 1) := by decide +kernel
theorem d_M_undo_74 : decode prog_14_method_91_code 74 = .ok (.iconst 0, 1) := by decide +kernel
theorem d_M_undo_75 : decode prog_14_method_91_code 75 = .ok (.istore_n 1, 1) := by decide +kernel
theorem d_M_undo_76 : decode prog_14_method_91_code 76 = .ok (.iload_n 1, 1) := by decide +kernel
theorem d_M_undo_77 : decode prog_14_method_91_code 77 = .ok (.bipush 6, 2) := by decide +kernel
theorem d_M_undo_82 : decode prog_14_method_91_code 82 = .ok (.aload_n 0, 1) := by decide +kernel
theorem d_M_undo_86 : decode prog_14_method_91_code 86 = .ok (.iload_n 1, 1) := by decide +kernel
theorem d_M_undo_87 : decode prog_14_method_91_code 87 = .ok (.aload_n 0, 1) := by decide +kernel
theorem d_M_undo_91 : decode prog_14_method_91_code 91 = .ok (.iload_n 1, 1) := by decide +kernel
theorem d_M_undo_94 : decode prog_14_method_91_code 94 = .ok (.aload_n 0, 1) := by decide +kernel
theorem d_M_undo_98 : decode prog_14_method_91_code 98 = .ok (.iload_n 1, 1) := by decide +kernel
theorem d_M_undo_99 : decode prog_14_method_91_code 99 = .ok (.aload_n 0, 1) := by decide +kernel
theorem d_M_undo_103 : decode prog_14_method_91_code 103 = .ok (.iload_n 1, 1) := by decide +kernel
theorem d_M_undo_106 : decode prog_14_method_91_code 106 = .ok (.aload_n 0, 1) := by decide +kernel
theorem d_M_undo_110 : decode prog_14_method_91_code 110 = .ok (.iload_n 1, 1) := by decide +kernel
theorem d_M_undo_111 : decode prog_14_method_91_code 111 = .ok (.aload_n 0, 1) := by decide +kernel
theorem d_M_undo_115 : decode prog_14_method_91_code 115 = .ok (.iload_n 1, 1) := by decide +kernel
theorem d_M_undo_118 : decode prog_14_method_91_code 118 = .ok (.aload_n 0, 1) := by decide +kernel
theorem d_M_undo_122 : decode prog_14_method_91_code 122 = .ok (.iload_n 1, 1) := by decide +kernel
theorem d_M_undo_123 : decode prog_14_method_91_code 123 = .ok (.aload_n 0, 1) := by decide +kernel
theorem d_M_undo_127 : decode prog_14_method_91_code 127 = .ok (.iload_n 1, 1) := by decide +kernel
theorem d_M_undo_130 : decode prog_14_method_91_code 130 = .ok (.iinc 1 1, 3) := by decide +kernel
theorem d_M_undo_133 : decode prog_14_method_91_code 133 = .ok (.goto (-57), 3) := by decide +kernel
theorem d_M_undo_129 : decode prog_14_method_91_code 129 = .ok (.iastore, 1) := by decide +kernel
theorem d_M_undo_124 : decode prog_14_method_91_code 124 = .ok (.getfield 178, 3) := by decide +kernel
theorem d_M_undo_119 : decode prog_14_method_91_code 119 = .ok (.getfield 32, 3) := by decide +kernel
theorem d_M_undo_117 : decode prog_14_method_91_code 117 = .ok (.iastore, 1) := by decide +kernel
theorem d_M_undo_112 : decode prog_14_method_91_code 112 = .ok (.getfield 175, 3) := by decide +kernel
theorem d_M_undo_107 : decode prog_14_method_91_code 107 = .ok (.getfield 29, 3) := by decide +kernel
theorem d_M_undo_105 : decode prog_14_method_91_code 105 = .ok (.iastore, 1) := by decide +kernel
theorem d_M_undo_100 : decode prog_14_method_91_code 100 = .ok (.getfield 172, 3) := by decide +kernel
theorem d_M_undo_95 : decode prog_14_method_91_code 95 = .ok (.getfield 26, 3) := by decide +kernel
theorem d_M_undo_93 : decode prog_14_method_91_code 93 = .ok (.iastore, 1) := by decide +kernel
theorem d_M_undo_88 : decode prog_14_method_91_code 88 = .ok (.getfield 169, 3) := by decide +kernel
theorem d_M_undo_83 : decode prog_14_method_91_code 83 = .ok (.getfield 22, 3) := by decide +kernel
theorem d_M_undo_79 : decode prog_14_method_91_code 79 = .ok (.if_icmp .ge 57, 3) := by decide +kernel
theorem d_M_undo_92 : decode prog_14_method_91_code 92 = .ok (.iaload, 1) := by decide +kernel
theorem d_M_undo_104 : decode prog_14_method_91_code 104 = .ok (.iaload, 1) := by decide +kernel
theorem d_M_undo_116 : decode prog_14_method_91_code 116 = .ok (.iaload, 1) := by decide +kernel
theorem d_M_undo_128 : decode prog_14_method_91_code 128 = .ok (.iaload, 1) := by decide +kernel
set_option maxRecDepth 10000 in
set_option maxHeartbeats 4000000 in
theorem W_M_undo_76 {q : QT} {z : ZT} {ν : Ml} {k : Mm → Option (Int32 × Mm)} (C : Ctx sdM q z prog_14_method_91_code "BesideTomModel" 2 0 (some (FieldType.int))) (hk : ∀ (me_ : Mm), R sdM q z 2 (φIm ν) (k me_) me_ ν 136 [(0, .ref (q.2.2.1 0))] []) : ∀ (n : Nat) (s9 : Int32) (μ10 : Mm), R sdM q z 2 (φIm ν) (L_M_undo_76 k n s9 μ10) μ10 ν 76 [(1, .int s9), (0, .ref (q.2.2.1 0))] [] := by
  intro n
  induction n with
  | zero =>
    intros
    exact R_none
  | succ n ih =>
    intro s9 μ10
    rw [L_M_undo_76]
    refine R_iload_n C 0 d_M_undo_76 rfl rfl ?_
    refine R_bipush C d_M_undo_77 (v := 6) (by decide +kernel) ?_
    refine R_icmp_ge C d_M_undo_79 (tgt := 136) (by decide) ?_ ?_
    · skip
      exact R_sub [1] rfl (hk μ10)
    · skip
      refine R_aload_n C 1 d_M_undo_82 rfl rfl ?_
      refine gf_M_kind C fl_M_22 d_M_undo_83 ?_
      refine R_iload_n C 0 d_M_undo_86 rfl rfl ?_
      refine R_aload_n C 1 d_M_undo_87 rfl rfl ?_
      refine gf_M_imageKind C fl_M_169 d_M_undo_88 ?_
      refine R_iload_n C 0 d_M_undo_91 rfl rfl ?_
      refine R_iald C mm_52 (mc_52 q _ _) d_M_undo_92 (fun v11 => ?_)
      refine R_iast C mm_4 (fun h => mc_4 q h _) d_M_undo_93 (fun μ12 => ?_)
      refine R_aload_n C 1 d_M_undo_94 rfl rfl ?_
      refine gf_M_v C fl_M_26 d_M_undo_95 ?_
      refine R_iload_n C 0 d_M_undo_98 rfl rfl ?_
      refine R_aload_n C 1 d_M_undo_99 rfl rfl ?_
      refine gf_M_imageV C fl_M_172 d_M_undo_100 ?_
      refine R_iload_n C 0 d_M_undo_103 rfl rfl ?_
      refine R_iald C mm_53 (mc_53 q _ _) d_M_undo_104 (fun v13 => ?_)
      refine R_iast C mm_5 (fun h => mc_5 q h _) d_M_undo_105 (fun μ14 => ?_)
      refine R_aload_n C 1 d_M_undo_106 rfl rfl ?_
      refine gf_M_desk C fl_M_29 d_M_undo_107 ?_
      refine R_iload_n C 0 d_M_undo_110 rfl rfl ?_
      refine R_aload_n C 1 d_M_undo_111 rfl rfl ?_
      refine gf_M_imageDesk C fl_M_175 d_M_undo_112 ?_
      refine R_iload_n C 0 d_M_undo_115 rfl rfl ?_
      refine R_iald C mm_54 (mc_54 q _ _) d_M_undo_116 (fun v15 => ?_)
      refine R_iast C mm_6 (fun h => mc_6 q h _) d_M_undo_117 (fun μ16 => ?_)
      refine R_aload_n C 1 d_M_undo_118 rfl rfl ?_
      refine gf_M_knew C fl_M_32 d_M_undo_119 ?_
      refine R_iload_n C 0 d_M_undo_122 rfl rfl ?_
      refine R_aload_n C 1 d_M_undo_123 rfl rfl ?_
      refine gf_M_imageKnew C fl_M_178 d_M_undo_124 ?_
      refine R_iload_n C 0 d_M_undo_127 rfl rfl ?_
      refine R_iald C mm_55 (mc_55 q _ _) d_M_undo_128 (fun v17 => ?_)
      refine R_iast C mm_7 (fun h => mc_7 q h _) d_M_undo_129 (fun μ18 => ?_)
      refine R_iinc C 0 d_M_undo_130 rfl (iinc_v _ (v := 1) (by decide +kernel)) (lv' := [(1, .int (s9 + 1)), (0, .ref (q.2.2.1 0))]) (by decide) rfl ?_
      refine R_goto C d_M_undo_133 (tgt := 76) (by decide) ?_
      exact R_sub [0, 1] rfl (ih (s9 + 1) μ18)
theorem d_M_undo_136 : decode prog_14_method_91_code 136 = .ok (.iconst 0, 1) := by decide +kernel
theorem d_M_undo_137 : decode prog_14_method_91_code 137 = .ok (.istore_n 1, 1) := by decide +kernel
theorem d_M_undo_138 : decode prog_14_method_91_code 138 = .ok (.iload_n 1, 1) := by decide +kernel
theorem d_M_undo_139 : decode prog_14_method_91_code 139 = .ok (.bipush 24, 2) := by decide +kernel
theorem d_M_undo_144 : decode prog_14_method_91_code 144 = .ok (.aload_n 0, 1) := by decide +kernel
theorem d_M_undo_148 : decode prog_14_method_91_code 148 = .ok (.iload_n 1, 1) := by decide +kernel
theorem d_M_undo_149 : decode prog_14_method_91_code 149 = .ok (.aload_n 0, 1) := by decide +kernel
theorem d_M_undo_153 : decode prog_14_method_91_code 153 = .ok (.iload_n 1, 1) := by decide +kernel
theorem d_M_undo_156 : decode prog_14_method_91_code 156 = .ok (.iinc 1 1, 3) := by decide +kernel
theorem d_M_undo_159 : decode prog_14_method_91_code 159 = .ok (.goto (-21), 3) := by decide +kernel
theorem d_M_undo_155 : decode prog_14_method_91_code 155 = .ok (.iastore, 1) := by decide +kernel
theorem d_M_undo_150 : decode prog_14_method_91_code 150 = .ok (.getfield 181, 3) := by decide +kernel
theorem d_M_undo_145 : decode prog_14_method_91_code 145 = .ok (.getfield 35, 3) := by decide +kernel
theorem d_M_undo_141 : decode prog_14_method_91_code 141 = .ok (.if_icmp .ge 21, 3) := by decide +kernel
theorem d_M_undo_154 : decode prog_14_method_91_code 154 = .ok (.iaload, 1) := by decide +kernel
set_option maxRecDepth 10000 in
set_option maxHeartbeats 4000000 in
theorem W_M_undo_138 {q : QT} {z : ZT} {ν : Ml} {k : Mm → Option (Int32 × Mm)} (C : Ctx sdM q z prog_14_method_91_code "BesideTomModel" 2 0 (some (FieldType.int))) (hk : ∀ (me_ : Mm), R sdM q z 2 (φIm ν) (k me_) me_ ν 162 [(0, .ref (q.2.2.1 0))] []) : ∀ (n : Nat) (s20 : Int32) (μ21 : Mm), R sdM q z 2 (φIm ν) (L_M_undo_138 k n s20 μ21) μ21 ν 138 [(1, .int s20), (0, .ref (q.2.2.1 0))] [] := by
  intro n
  induction n with
  | zero =>
    intros
    exact R_none
  | succ n ih =>
    intro s20 μ21
    rw [L_M_undo_138]
    refine R_iload_n C 0 d_M_undo_138 rfl rfl ?_
    refine R_bipush C d_M_undo_139 (v := 24) (by decide +kernel) ?_
    refine R_icmp_ge C d_M_undo_141 (tgt := 162) (by decide) ?_ ?_
    · skip
      exact R_sub [1] rfl (hk μ21)
    · skip
      refine R_aload_n C 1 d_M_undo_144 rfl rfl ?_
      refine gf_M_lines C fl_M_35 d_M_undo_145 ?_
      refine R_iload_n C 0 d_M_undo_148 rfl rfl ?_
      refine R_aload_n C 1 d_M_undo_149 rfl rfl ?_
      refine gf_M_imageLines C fl_M_181 d_M_undo_150 ?_
      refine R_iload_n C 0 d_M_undo_153 rfl rfl ?_
      refine R_iald C mm_56 (mc_56 q _ _) d_M_undo_154 (fun v22 => ?_)
      refine R_iast C mm_8 (fun h => mc_8 q h _) d_M_undo_155 (fun μ23 => ?_)
      refine R_iinc C 0 d_M_undo_156 rfl (iinc_v _ (v := 1) (by decide +kernel)) (lv' := [(1, .int (s20 + 1)), (0, .ref (q.2.2.1 0))]) (by decide) rfl ?_
      refine R_goto C d_M_undo_159 (tgt := 138) (by decide) ?_
      exact R_sub [0, 1] rfl (ih (s20 + 1) μ23)
theorem d_M_undo_162 : decode prog_14_method_91_code 162 = .ok (.iconst 0, 1) := by decide +kernel
theorem d_M_undo_163 : decode prog_14_method_91_code 163 = .ok (.istore_n 1, 1) := by decide +kernel
theorem d_M_undo_164 : decode prog_14_method_91_code 164 = .ok (.iload_n 1, 1) := by decide +kernel
theorem d_M_undo_165 : decode prog_14_method_91_code 165 = .ok (.iconst 5, 1) := by decide +kernel
theorem d_M_undo_169 : decode prog_14_method_91_code 169 = .ok (.aload_n 0, 1) := by decide +kernel
theorem d_M_undo_173 : decode prog_14_method_91_code 173 = .ok (.iload_n 1, 1) := by decide +kernel
theorem d_M_undo_174 : decode prog_14_method_91_code 174 = .ok (.aload_n 0, 1) := by decide +kernel
theorem d_M_undo_178 : decode prog_14_method_91_code 178 = .ok (.iload_n 1, 1) := by decide +kernel
theorem d_M_undo_181 : decode prog_14_method_91_code 181 = .ok (.aload_n 0, 1) := by decide +kernel
theorem d_M_undo_185 : decode prog_14_method_91_code 185 = .ok (.iload_n 1, 1) := by decide +kernel
theorem d_M_undo_186 : decode prog_14_method_91_code 186 = .ok (.aload_n 0, 1) := by decide +kernel
theorem d_M_undo_190 : decode prog_14_method_91_code 190 = .ok (.iload_n 1, 1) := by decide +kernel
theorem d_M_undo_193 : decode prog_14_method_91_code 193 = .ok (.iinc 1 1, 3) := by decide +kernel
theorem d_M_undo_196 : decode prog_14_method_91_code 196 = .ok (.goto (-32), 3) := by decide +kernel
theorem d_M_undo_192 : decode prog_14_method_91_code 192 = .ok (.iastore, 1) := by decide +kernel
theorem d_M_undo_187 : decode prog_14_method_91_code 187 = .ok (.getfield 187, 3) := by decide +kernel
theorem d_M_undo_182 : decode prog_14_method_91_code 182 = .ok (.getfield 120, 3) := by decide +kernel
theorem d_M_undo_180 : decode prog_14_method_91_code 180 = .ok (.iastore, 1) := by decide +kernel
theorem d_M_undo_175 : decode prog_14_method_91_code 175 = .ok (.getfield 184, 3) := by decide +kernel
theorem d_M_undo_170 : decode prog_14_method_91_code 170 = .ok (.getfield 117, 3) := by decide +kernel
theorem d_M_undo_166 : decode prog_14_method_91_code 166 = .ok (.if_icmp .ge 33, 3) := by decide +kernel
theorem d_M_undo_179 : decode prog_14_method_91_code 179 = .ok (.iaload, 1) := by decide +kernel
theorem d_M_undo_191 : decode prog_14_method_91_code 191 = .ok (.iaload, 1) := by decide +kernel
set_option maxRecDepth 10000 in
set_option maxHeartbeats 4000000 in
theorem W_M_undo_164 {q : QT} {z : ZT} {ν : Ml} {k : Mm → Option (Int32 × Mm)} (C : Ctx sdM q z prog_14_method_91_code "BesideTomModel" 2 0 (some (FieldType.int))) (hk : ∀ (me_ : Mm), R sdM q z 2 (φIm ν) (k me_) me_ ν 199 [(0, .ref (q.2.2.1 0))] []) : ∀ (n : Nat) (s25 : Int32) (μ26 : Mm), R sdM q z 2 (φIm ν) (L_M_undo_164 k n s25 μ26) μ26 ν 164 [(1, .int s25), (0, .ref (q.2.2.1 0))] [] := by
  intro n
  induction n with
  | zero =>
    intros
    exact R_none
  | succ n ih =>
    intro s25 μ26
    rw [L_M_undo_164]
    refine R_iload_n C 0 d_M_undo_164 rfl rfl ?_
    refine R_iconst C d_M_undo_165 (v := 5) (by decide +kernel) ?_
    refine R_icmp_ge C d_M_undo_166 (tgt := 199) (by decide) ?_ ?_
    · skip
      exact R_sub [1] rfl (hk μ26)
    · skip
      refine R_aload_n C 1 d_M_undo_169 rfl rfl ?_
      refine gf_M_heardNoise C fl_M_117 d_M_undo_170 ?_
      refine R_iload_n C 0 d_M_undo_173 rfl rfl ?_
      refine R_aload_n C 1 d_M_undo_174 rfl rfl ?_
      refine gf_M_imageNoise C fl_M_184 d_M_undo_175 ?_
      refine R_iload_n C 0 d_M_undo_178 rfl rfl ?_
      refine R_iald C mm_57 (mc_57 q _ _) d_M_undo_179 (fun v27 => ?_)
      refine R_iast C mm_35 (fun h => mc_35 q h _) d_M_undo_180 (fun μ28 => ?_)
      refine R_aload_n C 1 d_M_undo_181 rfl rfl ?_
      refine gf_M_heardWhen C fl_M_120 d_M_undo_182 ?_
      refine R_iload_n C 0 d_M_undo_185 rfl rfl ?_
      refine R_aload_n C 1 d_M_undo_186 rfl rfl ?_
      refine gf_M_imageWhen C fl_M_187 d_M_undo_187 ?_
      refine R_iload_n C 0 d_M_undo_190 rfl rfl ?_
      refine R_iald C mm_58 (mc_58 q _ _) d_M_undo_191 (fun v29 => ?_)
      refine R_iast C mm_36 (fun h => mc_36 q h _) d_M_undo_192 (fun μ30 => ?_)
      refine R_iinc C 0 d_M_undo_193 rfl (iinc_v _ (v := 1) (by decide +kernel)) (lv' := [(1, .int (s25 + 1)), (0, .ref (q.2.2.1 0))]) (by decide) rfl ?_
      refine R_goto C d_M_undo_196 (tgt := 164) (by decide) ?_
      exact R_sub [0, 1] rfl (ih (s25 + 1) μ30)
theorem d_M_undo_199 : decode prog_14_method_91_code 199 = .ok (.iconst 0, 1) := by decide +kernel
theorem d_M_undo_200 : decode prog_14_method_91_code 200 = .ok (.istore_n 1, 1) := by decide +kernel
theorem d_M_undo_201 : decode prog_14_method_91_code 201 = .ok (.iload_n 1, 1) := by decide +kernel
theorem d_M_undo_202 : decode prog_14_method_91_code 202 = .ok (.bipush 10, 2) := by decide +kernel
theorem d_M_undo_207 : decode prog_14_method_91_code 207 = .ok (.aload_n 0, 1) := by decide +kernel
theorem d_M_undo_211 : decode prog_14_method_91_code 211 = .ok (.iload_n 1, 1) := by decide +kernel
theorem d_M_undo_212 : decode prog_14_method_91_code 212 = .ok (.aload_n 0, 1) := by decide +kernel
theorem d_M_undo_216 : decode prog_14_method_91_code 216 = .ok (.iload_n 1, 1) := by decide +kernel
theorem d_M_undo_219 : decode prog_14_method_91_code 219 = .ok (.aload_n 0, 1) := by decide +kernel
theorem d_M_undo_223 : decode prog_14_method_91_code 223 = .ok (.iload_n 1, 1) := by decide +kernel
theorem d_M_undo_224 : decode prog_14_method_91_code 224 = .ok (.aload_n 0, 1) := by decide +kernel
theorem d_M_undo_228 : decode prog_14_method_91_code 228 = .ok (.iload_n 1, 1) := by decide +kernel
theorem d_M_undo_231 : decode prog_14_method_91_code 231 = .ok (.iinc 1 1, 3) := by decide +kernel
theorem d_M_undo_234 : decode prog_14_method_91_code 234 = .ok (.goto (-33), 3) := by decide +kernel
theorem d_M_undo_230 : decode prog_14_method_91_code 230 = .ok (.iastore, 1) := by decide +kernel
theorem d_M_undo_225 : decode prog_14_method_91_code 225 = .ok (.getfield 193, 3) := by decide +kernel
theorem d_M_undo_220 : decode prog_14_method_91_code 220 = .ok (.getfield 132, 3) := by decide +kernel
theorem d_M_undo_218 : decode prog_14_method_91_code 218 = .ok (.iastore, 1) := by decide +kernel
theorem d_M_undo_213 : decode prog_14_method_91_code 213 = .ok (.getfield 190, 3) := by decide +kernel
theorem d_M_undo_208 : decode prog_14_method_91_code 208 = .ok (.getfield 129, 3) := by decide +kernel
theorem d_M_undo_204 : decode prog_14_method_91_code 204 = .ok (.if_icmp .ge 33, 3) := by decide +kernel
theorem d_M_undo_217 : decode prog_14_method_91_code 217 = .ok (.iaload, 1) := by decide +kernel
theorem d_M_undo_229 : decode prog_14_method_91_code 229 = .ok (.iaload, 1) := by decide +kernel
set_option maxRecDepth 10000 in
set_option maxHeartbeats 4000000 in
theorem W_M_undo_201 {q : QT} {z : ZT} {ν : Ml} {k : Mm → Option (Int32 × Mm)} (C : Ctx sdM q z prog_14_method_91_code "BesideTomModel" 2 0 (some (FieldType.int))) (hk : ∀ (me_ : Mm), R sdM q z 2 (φIm ν) (k me_) me_ ν 237 [(0, .ref (q.2.2.1 0))] []) : ∀ (n : Nat) (s32 : Int32) (μ33 : Mm), R sdM q z 2 (φIm ν) (L_M_undo_201 k n s32 μ33) μ33 ν 201 [(1, .int s32), (0, .ref (q.2.2.1 0))] [] := by
  intro n
  induction n with
  | zero =>
    intros
    exact R_none
  | succ n ih =>
    intro s32 μ33
    rw [L_M_undo_201]
    refine R_iload_n C 0 d_M_undo_201 rfl rfl ?_
    refine R_bipush C d_M_undo_202 (v := 10) (by decide +kernel) ?_
    refine R_icmp_ge C d_M_undo_204 (tgt := 237) (by decide) ?_ ?_
    · skip
      exact R_sub [1] rfl (hk μ33)
    · skip
      refine R_aload_n C 1 d_M_undo_207 rfl rfl ?_
      refine gf_M_termWhat C fl_M_129 d_M_undo_208 ?_
      refine R_iload_n C 0 d_M_undo_211 rfl rfl ?_
      refine R_aload_n C 1 d_M_undo_212 rfl rfl ?_
      refine gf_M_imageWhat C fl_M_190 d_M_undo_213 ?_
      refine R_iload_n C 0 d_M_undo_216 rfl rfl ?_
      refine R_iald C mm_59 (mc_59 q _ _) d_M_undo_217 (fun v34 => ?_)
      refine R_iast C mm_39 (fun h => mc_39 q h _) d_M_undo_218 (fun μ35 => ?_)
      refine R_aload_n C 1 d_M_undo_219 rfl rfl ?_
      refine gf_M_termNumber C fl_M_132 d_M_undo_220 ?_
      refine R_iload_n C 0 d_M_undo_223 rfl rfl ?_
      refine R_aload_n C 1 d_M_undo_224 rfl rfl ?_
      refine gf_M_imageNumber C fl_M_193 d_M_undo_225 ?_
      refine R_iload_n C 0 d_M_undo_228 rfl rfl ?_
      refine R_iald C mm_60 (mc_60 q _ _) d_M_undo_229 (fun v36 => ?_)
      refine R_iast C mm_40 (fun h => mc_40 q h _) d_M_undo_230 (fun μ37 => ?_)
      refine R_iinc C 0 d_M_undo_231 rfl (iinc_v _ (v := 1) (by decide +kernel)) (lv' := [(1, .int (s32 + 1)), (0, .ref (q.2.2.1 0))]) (by decide) rfl ?_
      refine R_goto C d_M_undo_234 (tgt := 201) (by decide) ?_
      exact R_sub [0, 1] rfl (ih (s32 + 1) μ37)
theorem d_M_undo_237 : decode prog_14_method_91_code 237 = .ok (.iconst 0, 1) := by decide +kernel
theorem d_M_undo_238 : decode prog_14_method_91_code 238 = .ok (.istore_n 1, 1) := by decide +kernel
theorem d_M_undo_239 : decode prog_14_method_91_code 239 = .ok (.iload_n 1, 1) := by decide +kernel
theorem d_M_undo_240 : decode prog_14_method_91_code 240 = .ok (.bipush 8, 2) := by decide +kernel
theorem d_M_undo_245 : decode prog_14_method_91_code 245 = .ok (.aload_n 0, 1) := by decide +kernel
theorem d_M_undo_249 : decode prog_14_method_91_code 249 = .ok (.iload_n 1, 1) := by decide +kernel
theorem d_M_undo_250 : decode prog_14_method_91_code 250 = .ok (.aload_n 0, 1) := by decide +kernel
theorem d_M_undo_254 : decode prog_14_method_91_code 254 = .ok (.iload_n 1, 1) := by decide +kernel
theorem d_M_undo_257 : decode prog_14_method_91_code 257 = .ok (.aload_n 0, 1) := by decide +kernel
theorem d_M_undo_261 : decode prog_14_method_91_code 261 = .ok (.iload_n 1, 1) := by decide +kernel
theorem d_M_undo_262 : decode prog_14_method_91_code 262 = .ok (.aload_n 0, 1) := by decide +kernel
theorem d_M_undo_266 : decode prog_14_method_91_code 266 = .ok (.iload_n 1, 1) := by decide +kernel
theorem d_M_undo_269 : decode prog_14_method_91_code 269 = .ok (.iinc 1 1, 3) := by decide +kernel
theorem d_M_undo_272 : decode prog_14_method_91_code 272 = .ok (.goto (-33), 3) := by decide +kernel
theorem d_M_undo_268 : decode prog_14_method_91_code 268 = .ok (.iastore, 1) := by decide +kernel
theorem d_M_undo_263 : decode prog_14_method_91_code 263 = .ok (.getfield 199, 3) := by decide +kernel
theorem d_M_undo_258 : decode prog_14_method_91_code 258 = .ok (.getfield 138, 3) := by decide +kernel
theorem d_M_undo_256 : decode prog_14_method_91_code 256 = .ok (.iastore, 1) := by decide +kernel
theorem d_M_undo_251 : decode prog_14_method_91_code 251 = .ok (.getfield 196, 3) := by decide +kernel
theorem d_M_undo_246 : decode prog_14_method_91_code 246 = .ok (.getfield 135, 3) := by decide +kernel
theorem d_M_undo_242 : decode prog_14_method_91_code 242 = .ok (.if_icmp .ge 33, 3) := by decide +kernel
theorem d_M_undo_255 : decode prog_14_method_91_code 255 = .ok (.iaload, 1) := by decide +kernel
theorem d_M_undo_267 : decode prog_14_method_91_code 267 = .ok (.iaload, 1) := by decide +kernel
set_option maxRecDepth 10000 in
set_option maxHeartbeats 4000000 in
theorem W_M_undo_239 {q : QT} {z : ZT} {ν : Ml} {k : Mm → Option (Int32 × Mm)} (C : Ctx sdM q z prog_14_method_91_code "BesideTomModel" 2 0 (some (FieldType.int))) (hk : ∀ (me_ : Mm), R sdM q z 2 (φIm ν) (k me_) me_ ν 275 [(0, .ref (q.2.2.1 0))] []) : ∀ (n : Nat) (s39 : Int32) (μ40 : Mm), R sdM q z 2 (φIm ν) (L_M_undo_239 k n s39 μ40) μ40 ν 239 [(1, .int s39), (0, .ref (q.2.2.1 0))] [] := by
  intro n
  induction n with
  | zero =>
    intros
    exact R_none
  | succ n ih =>
    intro s39 μ40
    rw [L_M_undo_239]
    refine R_iload_n C 0 d_M_undo_239 rfl rfl ?_
    refine R_bipush C d_M_undo_240 (v := 8) (by decide +kernel) ?_
    refine R_icmp_ge C d_M_undo_242 (tgt := 275) (by decide) ?_ ?_
    · skip
      exact R_sub [1] rfl (hk μ40)
    · skip
      refine R_aload_n C 1 d_M_undo_245 rfl rfl ?_
      refine gf_M_bookWho C fl_M_135 d_M_undo_246 ?_
      refine R_iload_n C 0 d_M_undo_249 rfl rfl ?_
      refine R_aload_n C 1 d_M_undo_250 rfl rfl ?_
      refine gf_M_imageBookWho C fl_M_196 d_M_undo_251 ?_
      refine R_iload_n C 0 d_M_undo_254 rfl rfl ?_
      refine R_iald C mm_61 (mc_61 q _ _) d_M_undo_255 (fun v41 => ?_)
      refine R_iast C mm_41 (fun h => mc_41 q h _) d_M_undo_256 (fun μ42 => ?_)
      refine R_aload_n C 1 d_M_undo_257 rfl rfl ?_
      refine gf_M_bookDesk C fl_M_138 d_M_undo_258 ?_
      refine R_iload_n C 0 d_M_undo_261 rfl rfl ?_
      refine R_aload_n C 1 d_M_undo_262 rfl rfl ?_
      refine gf_M_imageBookDesk C fl_M_199 d_M_undo_263 ?_
      refine R_iload_n C 0 d_M_undo_266 rfl rfl ?_
      refine R_iald C mm_62 (mc_62 q _ _) d_M_undo_267 (fun v43 => ?_)
      refine R_iast C mm_42 (fun h => mc_42 q h _) d_M_undo_268 (fun μ44 => ?_)
      refine R_iinc C 0 d_M_undo_269 rfl (iinc_v _ (v := 1) (by decide +kernel)) (lv' := [(1, .int (s39 + 1)), (0, .ref (q.2.2.1 0))]) (by decide) rfl ?_
      refine R_goto C d_M_undo_272 (tgt := 239) (by decide) ?_
      exact R_sub [0, 1] rfl (ih (s39 + 1) μ44)
theorem d_M_undo_275 : decode prog_14_method_91_code 275 = .ok (.aload_n 0, 1) := by decide +kernel
theorem d_M_undo_279 : decode prog_14_method_91_code 279 = .ok (.ireturn, 1) := by decide +kernel
theorem d_M_undo_276 : decode prog_14_method_91_code 276 = .ok (.getfield 7, 3) := by decide +kernel
theorem d_M_undo_68 : decode prog_14_method_91_code 68 = .ok (.getfield 166, 3) := by decide +kernel
theorem d_M_undo_60 : decode prog_14_method_91_code 60 = .ok (.getfield 163, 3) := by decide +kernel
theorem d_M_undo_52 : decode prog_14_method_91_code 52 = .ok (.getfield 160, 3) := by decide +kernel
theorem d_M_undo_44 : decode prog_14_method_91_code 44 = .ok (.getfield 157, 3) := by decide +kernel
theorem d_M_undo_36 : decode prog_14_method_91_code 36 = .ok (.getfield 154, 3) := by decide +kernel
theorem d_M_undo_28 : decode prog_14_method_91_code 28 = .ok (.getfield 151, 3) := by decide +kernel
theorem d_M_undo_20 : decode prog_14_method_91_code 20 = .ok (.getfield 148, 3) := by decide +kernel
theorem d_M_undo_12 : decode prog_14_method_91_code 12 = .ok (.getfield 145, 3) := by decide +kernel
theorem d_M_undo_7 : decode prog_14_method_91_code 7 = .ok (.bipush (-3), 2) := by decide +kernel
theorem d_M_undo_9 : decode prog_14_method_91_code 9 = .ok (.ireturn, 1) := by decide +kernel
theorem d_M_undo_4 : decode prog_14_method_91_code 4 = .ok (.ifCond .ne 6, 3) := by decide +kernel
theorem d_M_undo_1 : decode prog_14_method_91_code 1 = .ok (.getfield 141, 3) := by decide +kernel
theorem d_M_undo_15 : decode prog_14_method_91_code 15 = .ok (.putfield 41, 3) := by decide +kernel
theorem d_M_undo_23 : decode prog_14_method_91_code 23 = .ok (.putfield 7, 3) := by decide +kernel
theorem d_M_undo_31 : decode prog_14_method_91_code 31 = .ok (.putfield 13, 3) := by decide +kernel
theorem d_M_undo_39 : decode prog_14_method_91_code 39 = .ok (.putfield 16, 3) := by decide +kernel
theorem d_M_undo_47 : decode prog_14_method_91_code 47 = .ok (.putfield 19, 3) := by decide +kernel
theorem d_M_undo_55 : decode prog_14_method_91_code 55 = .ok (.putfield 114, 3) := by decide +kernel
theorem d_M_undo_63 : decode prog_14_method_91_code 63 = .ok (.putfield 123, 3) := by decide +kernel
theorem d_M_undo_71 : decode prog_14_method_91_code 71 = .ok (.putfield 126, 3) := by decide +kernel
set_option maxRecDepth 10000 in
set_option maxHeartbeats 4000000 in
theorem w_M_undo {q : QT} {z : ZT} {μ : Mm} {ν : Ml} (C : Ctx sdM q z prog_14_method_91_code "BesideTomModel" 2 0 (some (FieldType.int))) : R sdM q z 2 (φIm ν) (F_M_undo μ) μ ν 0 [(0, .ref (q.2.2.1 0))] [] := by
  unfold F_M_undo
  refine R_aload_n C 0 d_M_undo_0 rfl rfl ?_
  refine gf_M_hasImage C fl_M_141 d_M_undo_1 ?_
  refine R_if_ne C d_M_undo_4 (tgt := 10) (by decide) ?_ ?_
  · skip
    refine R_aload_n C 0 d_M_undo_10 rfl rfl ?_
    refine R_aload_n C 0 d_M_undo_11 rfl rfl ?_
    refine gf_M_imageThe C fl_M_145 d_M_undo_12 ?_
    refine pf_M_the C fl_M_41 d_M_undo_15 (fun μ1 => ?_)
    refine R_aload_n C 0 d_M_undo_18 rfl rfl ?_
    refine R_aload_n C 0 d_M_undo_19 rfl rfl ?_
    refine gf_M_imagePupils C fl_M_148 d_M_undo_20 ?_
    refine pf_M_pupils C fl_M_7 d_M_undo_23 (fun μ2 => ?_)
    refine R_aload_n C 0 d_M_undo_26 rfl rfl ?_
    refine R_aload_n C 0 d_M_undo_27 rfl rfl ?_
    refine gf_M_imageGone C fl_M_151 d_M_undo_28 ?_
    refine pf_M_gone C fl_M_13 d_M_undo_31 (fun μ3 => ?_)
    refine R_aload_n C 0 d_M_undo_34 rfl rfl ?_
    refine R_aload_n C 0 d_M_undo_35 rfl rfl ?_
    refine gf_M_imageWorn C fl_M_154 d_M_undo_36 ?_
    refine pf_M_worn C fl_M_16 d_M_undo_39 (fun μ4 => ?_)
    refine R_aload_n C 0 d_M_undo_42 rfl rfl ?_
    refine R_aload_n C 0 d_M_undo_43 rfl rfl ?_
    refine gf_M_imageWeeks C fl_M_157 d_M_undo_44 ?_
    refine pf_M_weeks C fl_M_19 d_M_undo_47 (fun μ5 => ?_)
    refine R_aload_n C 0 d_M_undo_50 rfl rfl ?_
    refine R_aload_n C 0 d_M_undo_51 rfl rfl ?_
    refine gf_M_imageHeard C fl_M_160 d_M_undo_52 ?_
    refine pf_M_heard C fl_M_114 d_M_undo_55 (fun μ6 => ?_)
    refine R_aload_n C 0 d_M_undo_58 rfl rfl ?_
    refine R_aload_n C 0 d_M_undo_59 rfl rfl ?_
    refine gf_M_imageTerms C fl_M_163 d_M_undo_60 ?_
    refine pf_M_terms C fl_M_123 d_M_undo_63 (fun μ7 => ?_)
    refine R_aload_n C 0 d_M_undo_66 rfl rfl ?_
    refine R_aload_n C 0 d_M_undo_67 rfl rfl ?_
    refine gf_M_imageBooks C fl_M_166 d_M_undo_68 ?_
    refine pf_M_books C fl_M_126 d_M_undo_71 (fun μ8 => ?_)
    refine R_iconst C d_M_undo_74 (v := 0) (by decide +kernel) ?_
    refine R_istore_n C (lv' := [(1, .int 0), (0, .ref (q.2.2.1 0))]) d_M_undo_75 rfl (by decide) rfl ?_
    refine R_sub [0, 1] rfl ?_
    refine W_M_undo_76 C ?_ fu _ _
    intro μ19
    refine R_iconst C d_M_undo_136 (v := 0) (by decide +kernel) ?_
    refine R_istore_n C (lv' := [(1, .int 0), (0, .ref (q.2.2.1 0))]) d_M_undo_137 rfl (by decide) rfl ?_
    refine R_sub [0, 1] rfl ?_
    refine W_M_undo_138 C ?_ fu _ _
    intro μ24
    refine R_iconst C d_M_undo_162 (v := 0) (by decide +kernel) ?_
    refine R_istore_n C (lv' := [(1, .int 0), (0, .ref (q.2.2.1 0))]) d_M_undo_163 rfl (by decide) rfl ?_
    refine R_sub [0, 1] rfl ?_
    refine W_M_undo_164 C ?_ fu _ _
    intro μ31
    refine R_iconst C d_M_undo_199 (v := 0) (by decide +kernel) ?_
    refine R_istore_n C (lv' := [(1, .int 0), (0, .ref (q.2.2.1 0))]) d_M_undo_200 rfl (by decide) rfl ?_
    refine R_sub [0, 1] rfl ?_
    refine W_M_undo_201 C ?_ fu _ _
    intro μ38
    refine R_iconst C d_M_undo_237 (v := 0) (by decide +kernel) ?_
    refine R_istore_n C (lv' := [(1, .int 0), (0, .ref (q.2.2.1 0))]) d_M_undo_238 rfl (by decide) rfl ?_
    refine R_sub [0, 1] rfl ?_
    refine W_M_undo_239 C ?_ fu _ _
    intro μ45
    refine R_aload_n C 0 d_M_undo_275 rfl rfl ?_
    refine gf_M_pupils C fl_M_7 d_M_undo_276 ?_
    exact R_iret C rfl d_M_undo_279
  · skip
    refine R_bipush C d_M_undo_7 (v := (-3)) (by decide +kernel) ?_
    exact R_iret C rfl d_M_undo_9
theorem c_M_undo {q : QT} (hg : GOk sdM q) {μ : Mm} {ν : Ml} {o : Int32 × Mm} (ho : F_M_undo μ = some o) : Ct sdM q y_M_undo prog_14_method_91_code 2 (some (FieldType.int)) 0 [.ref (q.2.2.1 0)] μ ν ((φIm ν) o).1 ((φIm ν) o).2.1 ((φIm ν) o).2.2 := Ct_of rfl hg (fun z C => w_M_undo C) (Nat.le_of_ble_eq_true rfl) ho
def L_M_whoHas_2 (f2 : Int32) (μ : Mm) (k : Unit → Option (Int32)) : Nat → Int32 → Option (Int32)
  | 0, _ => none
  | n + 1, s1 => (if (μ 0 0) ≤ s1 then k () else (rdI (μ 6) 6 s1).bind fun v3 => (if v3 = f2 then some s1 else L_M_whoHas_2 f2 μ k n (s1 + 1)))
def F_M_whoHas (a1 : Int32) (μ : Mm) : Option (Int32) := L_M_whoHas_2 a1 μ (fun (_ : Unit) => some (-5)) fu 0
theorem d_M_whoHas_0 : decode prog_14_method_11_code 0 = .ok (.iconst 0, 1) := by decide +kernel
theorem d_M_whoHas_1 : decode prog_14_method_11_code 1 = .ok (.istore_n 2, 1) := by decide +kernel
theorem d_M_whoHas_2 : decode prog_14_method_11_code 2 = .ok (.iload_n 2, 1) := by decide +kernel
theorem d_M_whoHas_3 : decode prog_14_method_11_code 3 = .ok (.aload_n 0, 1) := by decide +kernel
theorem d_M_whoHas_10 : decode prog_14_method_11_code 10 = .ok (.aload_n 0, 1) := by decide +kernel
theorem d_M_whoHas_14 : decode prog_14_method_11_code 14 = .ok (.iload_n 2, 1) := by decide +kernel
theorem d_M_whoHas_16 : decode prog_14_method_11_code 16 = .ok (.iload_n 1, 1) := by decide +kernel
theorem d_M_whoHas_22 : decode prog_14_method_11_code 22 = .ok (.iinc 2 1, 3) := by decide +kernel
theorem d_M_whoHas_25 : decode prog_14_method_11_code 25 = .ok (.goto (-23), 3) := by decide +kernel
theorem d_M_whoHas_20 : decode prog_14_method_11_code 20 = .ok (.iload_n 2, 1) := by decide +kernel
theorem d_M_whoHas_21 : decode prog_14_method_11_code 21 = .ok (.ireturn, 1) := by decide +kernel
theorem d_M_whoHas_17 : decode prog_14_method_11_code 17 = .ok (.if_icmp .ne 5, 3) := by decide +kernel
theorem d_M_whoHas_11 : decode prog_14_method_11_code 11 = .ok (.getfield 29, 3) := by decide +kernel
theorem d_M_whoHas_7 : decode prog_14_method_11_code 7 = .ok (.if_icmp .ge 21, 3) := by decide +kernel
theorem d_M_whoHas_4 : decode prog_14_method_11_code 4 = .ok (.getfield 7, 3) := by decide +kernel
theorem d_M_whoHas_15 : decode prog_14_method_11_code 15 = .ok (.iaload, 1) := by decide +kernel
set_option maxRecDepth 10000 in
set_option maxHeartbeats 4000000 in
theorem W_M_whoHas_2 {q : QT} {z : ZT} {μ : Mm} {ν : Ml} {f2 : Int32} {k : Unit → Option (Int32)} (C : Ctx sdM q z prog_14_method_11_code "BesideTomModel" 3 0 (some (FieldType.int))) (hk : R sdM q z 3 (φI μ ν) (k ()) μ ν 28 [] []) : ∀ (n : Nat) (s1 : Int32), R sdM q z 3 (φI μ ν) (L_M_whoHas_2 f2 μ k n s1) μ ν 2 [(2, .int s1), (0, .ref (q.2.2.1 0)), (1, .int f2)] [] := by
  intro n
  induction n with
  | zero =>
    intros
    exact R_none
  | succ n ih =>
    intro s1
    rw [L_M_whoHas_2]
    refine R_iload_n C 0 d_M_whoHas_2 rfl rfl ?_
    refine R_aload_n C 1 d_M_whoHas_3 rfl rfl ?_
    refine gf_M_pupils C fl_M_7 d_M_whoHas_4 ?_
    refine R_icmp_ge C d_M_whoHas_7 (tgt := 28) (by decide) ?_ ?_
    · skip
      exact R_sub [] rfl hk
    · skip
      refine R_aload_n C 1 d_M_whoHas_10 rfl rfl ?_
      refine gf_M_desk C fl_M_29 d_M_whoHas_11 ?_
      refine R_iload_n C 0 d_M_whoHas_14 rfl rfl ?_
      refine R_iald C mm_6 (mc_6 q _ _) d_M_whoHas_15 (fun v3 => ?_)
      refine R_iload_n C 2 d_M_whoHas_16 rfl rfl ?_
      refine R_icmp_ne C d_M_whoHas_17 (tgt := 22) (by decide) ?_ ?_
      · skip
        refine R_iinc C 0 d_M_whoHas_22 rfl (iinc_v _ (v := 1) (by decide +kernel)) (lv' := [(2, .int (s1 + 1)), (0, .ref (q.2.2.1 0)), (1, .int f2)]) (by decide) rfl ?_
        refine R_goto C d_M_whoHas_25 (tgt := 2) (by decide) ?_
        exact R_sub [0, 1, 2] rfl (ih (s1 + 1))
      · skip
        refine R_iload_n C 0 d_M_whoHas_20 rfl rfl ?_
        exact R_iret C rfl d_M_whoHas_21
theorem d_M_whoHas_28 : decode prog_14_method_11_code 28 = .ok (.bipush (-5), 2) := by decide +kernel
theorem d_M_whoHas_30 : decode prog_14_method_11_code 30 = .ok (.ireturn, 1) := by decide +kernel
set_option maxRecDepth 10000 in
set_option maxHeartbeats 4000000 in
theorem w_M_whoHas {q : QT} {z : ZT} {a1 : Int32} {μ : Mm} {ν : Ml} (C : Ctx sdM q z prog_14_method_11_code "BesideTomModel" 3 0 (some (FieldType.int))) : R sdM q z 3 (φI μ ν) (F_M_whoHas a1 μ) μ ν 0 [(0, .ref (q.2.2.1 0)), (1, .int a1)] [] := by
  unfold F_M_whoHas
  refine R_iconst C d_M_whoHas_0 (v := 0) (by decide +kernel) ?_
  refine R_istore_n C (lv' := [(2, .int 0), (0, .ref (q.2.2.1 0)), (1, .int a1)]) d_M_whoHas_1 rfl (by decide) rfl ?_
  refine R_sub [0, 1, 2] rfl ?_
  refine W_M_whoHas_2 C ?_ fu _
  skip
  refine R_bipush C d_M_whoHas_28 (v := (-5)) (by decide +kernel) ?_
  exact R_iret C rfl d_M_whoHas_30
theorem c_M_whoHas {q : QT} (hg : GOk sdM q) {a1 : Int32} {μ : Mm} {ν : Ml} {o : Int32} (ho : F_M_whoHas a1 μ = some o) : Ct sdM q y_M_whoHas prog_14_method_11_code 3 (some (FieldType.int)) 0 [.ref (q.2.2.1 0), .int a1] μ ν ((φI μ ν) o).1 ((φI μ ν) o).2.1 ((φI μ ν) o).2.2 := Ct_of rfl hg (fun z C => w_M_whoHas C) (Nat.le_of_ble_eq_true rfl) ho
def L_M_beside_4 (f3 : Int32) (μ : Mm) (k : Int32 → Option (Int32)) : Nat → Int32 → Int32 → Option (Int32)
  | 0, _, _ => none
  | n + 1, s1, s2 => (if (μ 0 0) ≤ s2 then k s1 else jn (α := Int32) (fun K12 => jn (α := Unit) (fun K10 => (if s2 = f3 then K10 () else (F_M_has (μ 0 1) s2).bind fun v4 => (if v4 = 0 then (rdI (μ 6) 6 s2).bind fun v6 => (rdI (μ 6) 6 f3).bind fun v7 => (F_M_isNext v6 v7).bind fun v8 => (if v8 = 0 then K10 () else K12 (1 <<< (s2 &&& 31))) else K10 ()))) (fun (_ : Unit) => K12 0)) (fun (j11 : Int32) => L_M_beside_4 f3 μ k n (s1 ||| j11) (s2 + 1)))
def F_M_beside (a1 : Int32) (μ : Mm) : Option (Int32) := L_M_beside_4 a1 μ (fun (x13 : Int32) => some x13) fu 0 0
theorem d_M_beside_0 : decode prog_14_method_46_code 0 = .ok (.iconst 0, 1) := by decide +kernel
theorem d_M_beside_1 : decode prog_14_method_46_code 1 = .ok (.istore_n 2, 1) := by decide +kernel
theorem d_M_beside_2 : decode prog_14_method_46_code 2 = .ok (.iconst 0, 1) := by decide +kernel
theorem d_M_beside_3 : decode prog_14_method_46_code 3 = .ok (.istore_n 3, 1) := by decide +kernel
theorem d_M_beside_4 : decode prog_14_method_46_code 4 = .ok (.iload_n 3, 1) := by decide +kernel
theorem d_M_beside_5 : decode prog_14_method_46_code 5 = .ok (.aload_n 0, 1) := by decide +kernel
theorem d_M_beside_12 : decode prog_14_method_46_code 12 = .ok (.iload_n 2, 1) := by decide +kernel
theorem d_M_beside_13 : decode prog_14_method_46_code 13 = .ok (.iload_n 3, 1) := by decide +kernel
theorem d_M_beside_14 : decode prog_14_method_46_code 14 = .ok (.iload_n 1, 1) := by decide +kernel
theorem d_M_beside_18 : decode prog_14_method_46_code 18 = .ok (.aload_n 0, 1) := by decide +kernel
theorem d_M_beside_19 : decode prog_14_method_46_code 19 = .ok (.aload_n 0, 1) := by decide +kernel
theorem d_M_beside_23 : decode prog_14_method_46_code 23 = .ok (.iload_n 3, 1) := by decide +kernel
theorem d_M_beside_24 : decode prog_14_method_46_code 24 = .ok (.invokevirtual 221, 3) := by decide +kernel
theorem d_M_beside_30 : decode prog_14_method_46_code 30 = .ok (.aload_n 0, 1) := by decide +kernel
theorem d_M_beside_31 : decode prog_14_method_46_code 31 = .ok (.aload_n 0, 1) := by decide +kernel
theorem d_M_beside_35 : decode prog_14_method_46_code 35 = .ok (.iload_n 3, 1) := by decide +kernel
theorem d_M_beside_37 : decode prog_14_method_46_code 37 = .ok (.aload_n 0, 1) := by decide +kernel
theorem d_M_beside_41 : decode prog_14_method_46_code 41 = .ok (.iload_n 1, 1) := by decide +kernel
theorem d_M_beside_43 : decode prog_14_method_46_code 43 = .ok (.invokevirtual 322, 3) := by decide +kernel
theorem d_M_beside_49 : decode prog_14_method_46_code 49 = .ok (.iconst 1, 1) := by decide +kernel
theorem d_M_beside_50 : decode prog_14_method_46_code 50 = .ok (.iload_n 3, 1) := by decide +kernel
theorem d_M_beside_51 : decode prog_14_method_46_code 51 = .ok (.ishl, 1) := by decide +kernel
theorem d_M_beside_52 : decode prog_14_method_46_code 52 = .ok (.goto 4, 3) := by decide +kernel
theorem d_M_beside_46 : decode prog_14_method_46_code 46 = .ok (.ifCond .eq 9, 3) := by decide +kernel
theorem d_M_beside_38 : decode prog_14_method_46_code 38 = .ok (.getfield 29, 3) := by decide +kernel
theorem d_M_beside_32 : decode prog_14_method_46_code 32 = .ok (.getfield 29, 3) := by decide +kernel
theorem d_M_beside_27 : decode prog_14_method_46_code 27 = .ok (.ifCond .ne 28, 3) := by decide +kernel
theorem d_M_beside_20 : decode prog_14_method_46_code 20 = .ok (.getfield 13, 3) := by decide +kernel
theorem d_M_beside_15 : decode prog_14_method_46_code 15 = .ok (.if_icmp .eq 40, 3) := by decide +kernel
theorem d_M_beside_55 : decode prog_14_method_46_code 55 = .ok (.iconst 0, 1) := by decide +kernel
theorem d_M_beside_56 : decode prog_14_method_46_code 56 = .ok (.ior, 1) := by decide +kernel
theorem d_M_beside_57 : decode prog_14_method_46_code 57 = .ok (.istore_n 2, 1) := by decide +kernel
theorem d_M_beside_58 : decode prog_14_method_46_code 58 = .ok (.iinc 3 1, 3) := by decide +kernel
theorem d_M_beside_61 : decode prog_14_method_46_code 61 = .ok (.goto (-57), 3) := by decide +kernel
theorem d_M_beside_9 : decode prog_14_method_46_code 9 = .ok (.if_icmp .ge 55, 3) := by decide +kernel
theorem d_M_beside_6 : decode prog_14_method_46_code 6 = .ok (.getfield 7, 3) := by decide +kernel
theorem d_M_beside_36 : decode prog_14_method_46_code 36 = .ok (.iaload, 1) := by decide +kernel
theorem d_M_beside_42 : decode prog_14_method_46_code 42 = .ok (.iaload, 1) := by decide +kernel
set_option maxRecDepth 10000 in
set_option maxHeartbeats 4000000 in
theorem W_M_beside_4 {q : QT} {z : ZT} {μ : Mm} {ν : Ml} {f3 : Int32} {k : Int32 → Option (Int32)} (C : Ctx sdM q z prog_14_method_46_code "BesideTomModel" 4 1 (some (FieldType.int))) (hk : ∀ (e0_ : Int32), R sdM q z 4 (φI μ ν) (k e0_) μ ν 64 [(2, .int e0_)] []) : ∀ (n : Nat) (s1 : Int32) (s2 : Int32), R sdM q z 4 (φI μ ν) (L_M_beside_4 f3 μ k n s1 s2) μ ν 4 [(2, .int s1), (3, .int s2), (0, .ref (q.2.2.1 0)), (1, .int f3)] [] := by
  intro n
  induction n with
  | zero =>
    intros
    exact R_none
  | succ n ih =>
    intro s1 s2
    rw [L_M_beside_4]
    refine R_iload_n C 1 d_M_beside_4 rfl rfl ?_
    refine R_aload_n C 2 d_M_beside_5 rfl rfl ?_
    refine gf_M_pupils C fl_M_7 d_M_beside_6 ?_
    refine R_icmp_ge C d_M_beside_9 (tgt := 64) (by decide) ?_ ?_
    · skip
      exact R_sub [0] rfl (hk s1)
    · skip
      refine R_iload_n C 0 d_M_beside_12 rfl rfl ?_
      refine R_iload_n C 1 d_M_beside_13 rfl rfl ?_
      refine R_iload_n C 3 d_M_beside_14 rfl rfl ?_
      refine R_jn (fun K12 => ∀ (j11 : Int32), R sdM q z 4 (φI μ ν) (K12 j11) μ ν 56 [(0, .ref (q.2.2.1 0)), (1, .int f3), (3, .int s2)] [.int j11, .int s1]) ?_ (fun K12 hK12 => ?_)
      · intro j11
        refine R_ior C d_M_beside_56 ?_
        refine R_istore_n C (lv' := [(2, .int (s1 ||| j11)), (0, .ref (q.2.2.1 0)), (1, .int f3), (3, .int s2)]) d_M_beside_57 rfl (by decide) rfl ?_
        refine R_iinc C 3 d_M_beside_58 rfl (iinc_v _ (v := 1) (by decide +kernel)) (lv' := [(3, .int (s2 + 1)), (2, .int (s1 ||| j11)), (0, .ref (q.2.2.1 0)), (1, .int f3)]) (by decide) rfl ?_
        refine R_goto C d_M_beside_61 (tgt := 4) (by decide) ?_
        exact R_sub [1, 0, 2, 3] rfl (ih (s1 ||| j11) (s2 + 1))
      · skip
        refine R_jn (fun K10 => R sdM q z 4 (φI μ ν) (K10 ()) μ ν 55 [(0, .ref (q.2.2.1 0)), (1, .int f3), (3, .int s2)] [.int s1]) ?_ (fun K10 hK10 => ?_)
        · skip
          refine R_iconst C d_M_beside_55 (v := 0) (by decide +kernel) ?_
          exact R_sub [0, 1, 2] rfl (hK12 0)
        · skip
          refine R_icmp_eq C d_M_beside_15 (tgt := 55) (by decide) ?_ ?_
          · skip
            exact R_sub [2, 3, 1] rfl (hK10)
          · skip
            refine R_aload_n C 2 d_M_beside_18 rfl rfl ?_
            refine R_aload_n C 2 d_M_beside_19 rfl rfl ?_
            refine gf_M_gone C fl_M_13 d_M_beside_20 ?_
            refine R_iload_n C 1 d_M_beside_23 rfl rfl ?_
            refine R_bind (fun v4 h5 => ?_)
            refine R_callV C mm_0 (mc_0 q _ _) rfl cf_M_has rfl ml_M_221 im_M_has sl_M_M_has_M_has (c_M_has (gk C) h5) (by decide) (by decide) rfl rfl (Nat.le_of_ble_eq_true rfl) d_M_beside_24 ?_
            refine R_if_ne C d_M_beside_27 (tgt := 55) (by decide) ?_ ?_
            · skip
              exact R_sub [2, 3, 1] rfl (hK10)
            · skip
              refine R_aload_n C 2 d_M_beside_30 rfl rfl ?_
              refine R_aload_n C 2 d_M_beside_31 rfl rfl ?_
              refine gf_M_desk C fl_M_29 d_M_beside_32 ?_
              refine R_iload_n C 1 d_M_beside_35 rfl rfl ?_
              refine R_iald C mm_6 (mc_6 q _ _) d_M_beside_36 (fun v6 => ?_)
              refine R_aload_n C 2 d_M_beside_37 rfl rfl ?_
              refine gf_M_desk C fl_M_29 d_M_beside_38 ?_
              refine R_iload_n C 3 d_M_beside_41 rfl rfl ?_
              refine R_iald C mm_6 (mc_6 q _ _) d_M_beside_42 (fun v7 => ?_)
              refine R_bind (fun v8 h9 => ?_)
              refine R_callV C mm_0 (mc_0 q _ _) rfl cf_M_isNext rfl ml_M_322 im_M_isNext sl_M_M_isNext_M_isNext (c_M_isNext (gk C) h9) (by decide) (by decide) rfl rfl (Nat.le_of_ble_eq_true rfl) d_M_beside_43 ?_
              refine R_if_eq C d_M_beside_46 (tgt := 55) (by decide) ?_ ?_
              · skip
                exact R_sub [2, 3, 1] rfl (hK10)
              · skip
                refine R_iconst C d_M_beside_49 (v := 1) (by decide +kernel) ?_
                refine R_iload_n C 1 d_M_beside_50 rfl rfl ?_
                refine R_ishl C d_M_beside_51 ?_
                refine R_goto C d_M_beside_52 (tgt := 56) (by decide) ?_
                exact R_sub [2, 3, 1] rfl (hK12 (1 <<< (s2 &&& 31)))
theorem d_M_beside_64 : decode prog_14_method_46_code 64 = .ok (.iload_n 2, 1) := by decide +kernel
theorem d_M_beside_65 : decode prog_14_method_46_code 65 = .ok (.ireturn, 1) := by decide +kernel
set_option maxRecDepth 10000 in
set_option maxHeartbeats 4000000 in
theorem w_M_beside {q : QT} {z : ZT} {a1 : Int32} {μ : Mm} {ν : Ml} (C : Ctx sdM q z prog_14_method_46_code "BesideTomModel" 4 1 (some (FieldType.int))) : R sdM q z 4 (φI μ ν) (F_M_beside a1 μ) μ ν 0 [(0, .ref (q.2.2.1 0)), (1, .int a1)] [] := by
  unfold F_M_beside
  refine R_iconst C d_M_beside_0 (v := 0) (by decide +kernel) ?_
  refine R_istore_n C (lv' := [(2, .int 0), (0, .ref (q.2.2.1 0)), (1, .int a1)]) d_M_beside_1 rfl (by decide) rfl ?_
  refine R_iconst C d_M_beside_2 (v := 0) (by decide +kernel) ?_
  refine R_istore_n C (lv' := [(3, .int 0), (2, .int 0), (0, .ref (q.2.2.1 0)), (1, .int a1)]) d_M_beside_3 rfl (by decide) rfl ?_
  refine R_sub [1, 0, 2, 3] rfl ?_
  refine W_M_beside_4 C ?_ fu _ _
  intro x13
  refine R_iload_n C 0 d_M_beside_64 rfl rfl ?_
  exact R_iret C rfl d_M_beside_65
theorem c_M_beside {q : QT} (hg : GOk sdM q) {a1 : Int32} {μ : Mm} {ν : Ml} {o : Int32} (ho : F_M_beside a1 μ = some o) : Ct sdM q y_M_beside prog_14_method_46_code 4 (some (FieldType.int)) 1 [.ref (q.2.2.1 0), .int a1] μ ν ((φI μ ν) o).1 ((φI μ ν) o).2.1 ((φI μ ν) o).2.2 := Ct_of rfl hg (fun z C => w_M_beside C) (Nat.le_of_ble_eq_true rfl) ho
def F_M_feed (a1 : Int32) (μ : Mm) : Option (Int32 × Mm) := (F_M_in a1 0 127).bind fun v1 => (if v1 = 0 then some ((-2), μ) else (if (μ 0 11) = 100 then some ((-4), μ) else (wrI μ 14 100 (μ 0 11) a1).bind fun μ3 => lt_ (up2 μ3 0 11 ((μ3 0 11) + 1)) fun μ4 => some ((μ4 0 11), μ4)))
theorem d_M_feed_0 : decode prog_14_method_20_code 0 = .ok (.aload_n 0, 1) := by decide +kernel
theorem d_M_feed_1 : decode prog_14_method_20_code 1 = .ok (.iload_n 1, 1) := by decide +kernel
theorem d_M_feed_2 : decode prog_14_method_20_code 2 = .ok (.iconst 0, 1) := by decide +kernel
theorem d_M_feed_3 : decode prog_14_method_20_code 3 = .ok (.bipush 127, 2) := by decide +kernel
theorem d_M_feed_5 : decode prog_14_method_20_code 5 = .ok (.invokevirtual 225, 3) := by decide +kernel
theorem d_M_feed_14 : decode prog_14_method_20_code 14 = .ok (.aload_n 0, 1) := by decide +kernel
theorem d_M_feed_18 : decode prog_14_method_20_code 18 = .ok (.bipush 100, 2) := by decide +kernel
theorem d_M_feed_26 : decode prog_14_method_20_code 26 = .ok (.aload_n 0, 1) := by decide +kernel
theorem d_M_feed_30 : decode prog_14_method_20_code 30 = .ok (.aload_n 0, 1) := by decide +kernel
theorem d_M_feed_34 : decode prog_14_method_20_code 34 = .ok (.iload_n 1, 1) := by decide +kernel
theorem d_M_feed_36 : decode prog_14_method_20_code 36 = .ok (.aload_n 0, 1) := by decide +kernel
theorem d_M_feed_37 : decode prog_14_method_20_code 37 = .ok (.dup, 1) := by decide +kernel
theorem d_M_feed_41 : decode prog_14_method_20_code 41 = .ok (.iconst 1, 1) := by decide +kernel
theorem d_M_feed_42 : decode prog_14_method_20_code 42 = .ok (.iadd, 1) := by decide +kernel
theorem d_M_feed_46 : decode prog_14_method_20_code 46 = .ok (.aload_n 0, 1) := by decide +kernel
theorem d_M_feed_50 : decode prog_14_method_20_code 50 = .ok (.ireturn, 1) := by decide +kernel
theorem d_M_feed_47 : decode prog_14_method_20_code 47 = .ok (.getfield 44, 3) := by decide +kernel
theorem d_M_feed_38 : decode prog_14_method_20_code 38 = .ok (.getfield 44, 3) := by decide +kernel
theorem d_M_feed_35 : decode prog_14_method_20_code 35 = .ok (.iastore, 1) := by decide +kernel
theorem d_M_feed_31 : decode prog_14_method_20_code 31 = .ok (.getfield 44, 3) := by decide +kernel
theorem d_M_feed_27 : decode prog_14_method_20_code 27 = .ok (.getfield 53, 3) := by decide +kernel
theorem d_M_feed_23 : decode prog_14_method_20_code 23 = .ok (.bipush (-4), 2) := by decide +kernel
theorem d_M_feed_25 : decode prog_14_method_20_code 25 = .ok (.ireturn, 1) := by decide +kernel
theorem d_M_feed_20 : decode prog_14_method_20_code 20 = .ok (.if_icmp .ne 6, 3) := by decide +kernel
theorem d_M_feed_15 : decode prog_14_method_20_code 15 = .ok (.getfield 44, 3) := by decide +kernel
theorem d_M_feed_11 : decode prog_14_method_20_code 11 = .ok (.bipush (-2), 2) := by decide +kernel
theorem d_M_feed_13 : decode prog_14_method_20_code 13 = .ok (.ireturn, 1) := by decide +kernel
theorem d_M_feed_8 : decode prog_14_method_20_code 8 = .ok (.ifCond .ne 6, 3) := by decide +kernel
theorem d_M_feed_43 : decode prog_14_method_20_code 43 = .ok (.putfield 44, 3) := by decide +kernel
set_option maxRecDepth 10000 in
set_option maxHeartbeats 4000000 in
theorem w_M_feed {q : QT} {z : ZT} {a1 : Int32} {μ : Mm} {ν : Ml} (C : Ctx sdM q z prog_14_method_20_code "BesideTomModel" 2 1 (some (FieldType.int))) : R sdM q z 2 (φIm ν) (F_M_feed a1 μ) μ ν 0 [(0, .ref (q.2.2.1 0)), (1, .int a1)] [] := by
  unfold F_M_feed
  refine R_aload_n C 0 d_M_feed_0 rfl rfl ?_
  refine R_iload_n C 1 d_M_feed_1 rfl rfl ?_
  refine R_iconst C d_M_feed_2 (v := 0) (by decide +kernel) ?_
  refine R_bipush C d_M_feed_3 (v := 127) (by decide +kernel) ?_
  refine R_bind (fun v1 h2 => ?_)
  refine R_callV C mm_0 (mc_0 q _ _) rfl cf_M_in rfl ml_M_225 im_M_in sl_M_M_in_M_in (c_M_in (gk C) h2) (by decide) (by decide) rfl rfl (Nat.le_of_ble_eq_true rfl) d_M_feed_5 ?_
  refine R_if_ne C d_M_feed_8 (tgt := 14) (by decide) ?_ ?_
  · skip
    refine R_aload_n C 0 d_M_feed_14 rfl rfl ?_
    refine gf_M_fed C fl_M_44 d_M_feed_15 ?_
    refine R_bipush C d_M_feed_18 (v := 100) (by decide +kernel) ?_
    refine R_icmp_ne C d_M_feed_20 (tgt := 26) (by decide) ?_ ?_
    · skip
      refine R_aload_n C 0 d_M_feed_26 rfl rfl ?_
      refine gf_M_text C fl_M_53 d_M_feed_27 ?_
      refine R_aload_n C 0 d_M_feed_30 rfl rfl ?_
      refine gf_M_fed C fl_M_44 d_M_feed_31 ?_
      refine R_iload_n C 1 d_M_feed_34 rfl rfl ?_
      refine R_iast C mm_14 (fun h => mc_14 q h _) d_M_feed_35 (fun μ3 => ?_)
      refine R_aload_n C 0 d_M_feed_36 rfl rfl ?_
      refine R_dup C d_M_feed_37 rfl ?_
      refine gf_M_fed C fl_M_44 d_M_feed_38 ?_
      refine R_iconst C d_M_feed_41 (v := 1) (by decide +kernel) ?_
      refine R_iadd C d_M_feed_42 ?_
      refine pf_M_fed C fl_M_44 d_M_feed_43 (fun μ4 => ?_)
      refine R_aload_n C 0 d_M_feed_46 rfl rfl ?_
      refine gf_M_fed C fl_M_44 d_M_feed_47 ?_
      exact R_iret C rfl d_M_feed_50
    · skip
      refine R_bipush C d_M_feed_23 (v := (-4)) (by decide +kernel) ?_
      exact R_iret C rfl d_M_feed_25
  · skip
    refine R_bipush C d_M_feed_11 (v := (-2)) (by decide +kernel) ?_
    exact R_iret C rfl d_M_feed_13
theorem c_M_feed {q : QT} (hg : GOk sdM q) {a1 : Int32} {μ : Mm} {ν : Ml} {o : Int32 × Mm} (ho : F_M_feed a1 μ = some o) : Ct sdM q y_M_feed prog_14_method_20_code 2 (some (FieldType.int)) 1 [.ref (q.2.2.1 0), .int a1] μ ν ((φIm ν) o).1 ((φIm ν) o).2.1 ((φIm ν) o).2.2 := Ct_of rfl hg (fun z C => w_M_feed C) (Nat.le_of_ble_eq_true rfl) ho
def L_M_holds_11 (f4 : Int32) (f5 : Int32) (f6 : Int32) (k : Mm → Option (Int32 × Mm)) : Nat → Int32 → Int32 → Mm → Option (Int32 × Mm)
  | 0, _, _, _ => none
  | n + 1, s2, s3, μ7 => (rdI (μ7 19) 60 f4).bind fun v8 => (if v8 ≤ s3 then k μ7 else (rdI (μ7 20) 600 s3).bind fun v9 => jn (α := Int32 × Mm) (fun K31 => (if v9 = (-33) then (rdI (μ7 26) 100 (s2 - 1)).bind fun v25 => jn (α := Int32) (fun K28 => (if v25 = 0 then K28 1 else K28 0)) (fun (j26 : Int32) => (wrI μ7 26 100 (s2 - 1) (vp_nar .boolean j26)).bind fun μ27 => K31 (s2, μ27)) else (if 0 ≤ v9 then (F_M_factOf (v9 / 1000) f5 f6 μ7).bind fun v10 => lt_ ((v9 / 100) - (v9 / 100) / 10 * 10) fun x12 => jn (α := Int32) (fun K15 => (if x12 = 0 then (if (v9 - v9 / 100 * 100) ≤ v10 then K15 0 else K15 1) else (if x12 = 1 then (if v10 = (v9 - v9 / 100 * 100) then K15 1 else K15 0) else (if v10 ≤ (v9 - v9 / 100 * 100) then K15 0 else K15 1)))) (fun (j13 : Int32) => (wrI μ7 26 100 s2 (vp_nar .boolean j13)).bind fun μ14 => K31 ((s2 + 1), μ14)) else jn (α := Int32) (fun K24 => (if v9 = (-38) then (rdI (μ7 26) 100 ((s2 + (-1)) - 1)).bind fun v19 => jn (α := Unit) (fun K21 => (if v19 = 0 then K21 () else (rdI (μ7 26) 100 (s2 + (-1))).bind fun v20 => (if v20 = 0 then K21 () else K24 1))) (fun (_ : Unit) => K24 0) else (rdI (μ7 26) 100 ((s2 + (-1)) - 1)).bind fun v16 => jn (α := Unit) (fun K18 => (if v16 = 0 then (rdI (μ7 26) 100 (s2 + (-1))).bind fun v17 => (if v17 = 0 then K24 0 else K18 ()) else K18 ())) (fun (_ : Unit) => K24 1))) (fun (j22 : Int32) => (wrI μ7 26 100 ((s2 + (-1)) - 1) (vp_nar .boolean j22)).bind fun μ23 => K31 ((s2 + (-1)), μ23))))) (fun (p_ : Int32 × Mm) => match p_ with | (j29, μ30) => L_M_holds_11 f4 f5 f6 k n j29 (s3 + 1) μ30))
def F_M_holds (a1 : Int32) (a2 : Int32) (a3 : Int32) (μ : Mm) : Option (Int32 × Mm) := (rdI (μ 18) 60 a1).bind fun v1 => L_M_holds_11 a1 a2 a3 (fun (μ32 : Mm) => (rdI (μ32 26) 100 0).bind fun v33 => (rZ v33).bind fun r_ => some (r_, μ32)) fu 0 v1 μ
theorem d_M_holds_0 : decode prog_14_method_43_code 0 = .ok (.iconst 0, 1) := by decide +kernel
theorem d_M_holds_1 : decode prog_14_method_43_code 1 = .ok (.istore 4, 2) := by decide +kernel
theorem d_M_holds_3 : decode prog_14_method_43_code 3 = .ok (.aload_n 0, 1) := by decide +kernel
theorem d_M_holds_7 : decode prog_14_method_43_code 7 = .ok (.iload_n 1, 1) := by decide +kernel
theorem d_M_holds_9 : decode prog_14_method_43_code 9 = .ok (.istore 5, 2) := by decide +kernel
theorem d_M_holds_11 : decode prog_14_method_43_code 11 = .ok (.iload 5, 2) := by decide +kernel
theorem d_M_holds_13 : decode prog_14_method_43_code 13 = .ok (.aload_n 0, 1) := by decide +kernel
theorem d_M_holds_17 : decode prog_14_method_43_code 17 = .ok (.iload_n 1, 1) := by decide +kernel
theorem d_M_holds_22 : decode prog_14_method_43_code 22 = .ok (.aload_n 0, 1) := by decide +kernel
theorem d_M_holds_26 : decode prog_14_method_43_code 26 = .ok (.iload 5, 2) := by decide +kernel
theorem d_M_holds_29 : decode prog_14_method_43_code 29 = .ok (.istore 6, 2) := by decide +kernel
theorem d_M_holds_31 : decode prog_14_method_43_code 31 = .ok (.iload 6, 2) := by decide +kernel
theorem d_M_holds_33 : decode prog_14_method_43_code 33 = .ok (.bipush (-33), 2) := by decide +kernel
theorem d_M_holds_67 : decode prog_14_method_43_code 67 = .ok (.iload 6, 2) := by decide +kernel
theorem d_M_holds_151 : decode prog_14_method_43_code 151 = .ok (.aload_n 0, 1) := by decide +kernel
theorem d_M_holds_152 : decode prog_14_method_43_code 152 = .ok (.iload 6, 2) := by decide +kernel
theorem d_M_holds_154 : decode prog_14_method_43_code 154 = .ok (.sipush 1000, 3) := by decide +kernel
theorem d_M_holds_158 : decode prog_14_method_43_code 158 = .ok (.iload_n 2, 1) := by decide +kernel
theorem d_M_holds_159 : decode prog_14_method_43_code 159 = .ok (.iload_n 3, 1) := by decide +kernel
theorem d_M_holds_160 : decode prog_14_method_43_code 160 = .ok (.invokevirtual 312, 3) := by decide +kernel
theorem d_M_holds_163 : decode prog_14_method_43_code 163 = .ok (.istore 7, 2) := by decide +kernel
theorem d_M_holds_165 : decode prog_14_method_43_code 165 = .ok (.iload 6, 2) := by decide +kernel
theorem d_M_holds_167 : decode prog_14_method_43_code 167 = .ok (.bipush 100, 2) := by decide +kernel
theorem d_M_holds_170 : decode prog_14_method_43_code 170 = .ok (.bipush 10, 2) := by decide +kernel
theorem d_M_holds_175 : decode prog_14_method_43_code 175 = .ok (.aload_n 0, 1) := by decide +kernel
theorem d_M_holds_179 : decode prog_14_method_43_code 179 = .ok (.iload 4, 2) := by decide +kernel
theorem d_M_holds_181 : decode prog_14_method_43_code 181 = .ok (.iload 8, 2) := by decide +kernel
theorem d_M_holds_204 : decode prog_14_method_43_code 204 = .ok (.iload 8, 2) := by decide +kernel
theorem d_M_holds_206 : decode prog_14_method_43_code 206 = .ok (.iconst 1, 1) := by decide +kernel
theorem d_M_holds_228 : decode prog_14_method_43_code 228 = .ok (.iload 7, 2) := by decide +kernel
theorem d_M_holds_230 : decode prog_14_method_43_code 230 = .ok (.iload 6, 2) := by decide +kernel
theorem d_M_holds_232 : decode prog_14_method_43_code 232 = .ok (.bipush 100, 2) := by decide +kernel
theorem d_M_holds_242 : decode prog_14_method_43_code 242 = .ok (.iconst 0, 1) := by decide +kernel
theorem d_M_holds_238 : decode prog_14_method_43_code 238 = .ok (.iconst 1, 1) := by decide +kernel
theorem d_M_holds_239 : decode prog_14_method_43_code 239 = .ok (.goto 4, 3) := by decide +kernel
theorem d_M_holds_235 : decode prog_14_method_43_code 235 = .ok (.if_icmp .le 7, 3) := by decide +kernel
theorem d_M_holds_234 : decode prog_14_method_43_code 234 = .ok (.irem, 1) := by decide +kernel
theorem d_M_holds_210 : decode prog_14_method_43_code 210 = .ok (.iload 7, 2) := by decide +kernel
theorem d_M_holds_212 : decode prog_14_method_43_code 212 = .ok (.iload 6, 2) := by decide +kernel
theorem d_M_holds_214 : decode prog_14_method_43_code 214 = .ok (.bipush 100, 2) := by decide +kernel
theorem d_M_holds_224 : decode prog_14_method_43_code 224 = .ok (.iconst 0, 1) := by decide +kernel
theorem d_M_holds_225 : decode prog_14_method_43_code 225 = .ok (.goto 18, 3) := by decide +kernel
theorem d_M_holds_220 : decode prog_14_method_43_code 220 = .ok (.iconst 1, 1) := by decide +kernel
theorem d_M_holds_221 : decode prog_14_method_43_code 221 = .ok (.goto 22, 3) := by decide +kernel
theorem d_M_holds_217 : decode prog_14_method_43_code 217 = .ok (.if_icmp .ne 7, 3) := by decide +kernel
theorem d_M_holds_216 : decode prog_14_method_43_code 216 = .ok (.irem, 1) := by decide +kernel
theorem d_M_holds_207 : decode prog_14_method_43_code 207 = .ok (.if_icmp .ne 21, 3) := by decide +kernel
theorem d_M_holds_186 : decode prog_14_method_43_code 186 = .ok (.iload 7, 2) := by decide +kernel
theorem d_M_holds_188 : decode prog_14_method_43_code 188 = .ok (.iload 6, 2) := by decide +kernel
theorem d_M_holds_190 : decode prog_14_method_43_code 190 = .ok (.bipush 100, 2) := by decide +kernel
theorem d_M_holds_200 : decode prog_14_method_43_code 200 = .ok (.iconst 0, 1) := by decide +kernel
theorem d_M_holds_201 : decode prog_14_method_43_code 201 = .ok (.goto 42, 3) := by decide +kernel
theorem d_M_holds_196 : decode prog_14_method_43_code 196 = .ok (.iconst 1, 1) := by decide +kernel
theorem d_M_holds_197 : decode prog_14_method_43_code 197 = .ok (.goto 46, 3) := by decide +kernel
theorem d_M_holds_193 : decode prog_14_method_43_code 193 = .ok (.if_icmp .ge 7, 3) := by decide +kernel
theorem d_M_holds_192 : decode prog_14_method_43_code 192 = .ok (.irem, 1) := by decide +kernel
theorem d_M_holds_183 : decode prog_14_method_43_code 183 = .ok (.ifCond .ne 21, 3) := by decide +kernel
theorem d_M_holds_244 : decode prog_14_method_43_code 244 = .ok (.iinc 4 1, 3) := by decide +kernel
theorem d_M_holds_243 : decode prog_14_method_43_code 243 = .ok (.bastore, 1) := by decide +kernel
theorem d_M_holds_176 : decode prog_14_method_43_code 176 = .ok (.getfield 89, 3) := by decide +kernel
theorem d_M_holds_173 : decode prog_14_method_43_code 173 = .ok (.istore 8, 2) := by decide +kernel
theorem d_M_holds_172 : decode prog_14_method_43_code 172 = .ok (.irem, 1) := by decide +kernel
theorem d_M_holds_169 : decode prog_14_method_43_code 169 = .ok (.idiv, 1) := by decide +kernel
theorem d_M_holds_157 : decode prog_14_method_43_code 157 = .ok (.idiv, 1) := by decide +kernel
theorem d_M_holds_72 : decode prog_14_method_43_code 72 = .ok (.iinc 4 (-1), 3) := by decide +kernel
theorem d_M_holds_75 : decode prog_14_method_43_code 75 = .ok (.aload_n 0, 1) := by decide +kernel
theorem d_M_holds_79 : decode prog_14_method_43_code 79 = .ok (.iload 4, 2) := by decide +kernel
theorem d_M_holds_81 : decode prog_14_method_43_code 81 = .ok (.iconst 1, 1) := by decide +kernel
theorem d_M_holds_82 : decode prog_14_method_43_code 82 = .ok (.isub, 1) := by decide +kernel
theorem d_M_holds_83 : decode prog_14_method_43_code 83 = .ok (.iload 6, 2) := by decide +kernel
theorem d_M_holds_85 : decode prog_14_method_43_code 85 = .ok (.bipush (-38), 2) := by decide +kernel
theorem d_M_holds_120 : decode prog_14_method_43_code 120 = .ok (.aload_n 0, 1) := by decide +kernel
theorem d_M_holds_124 : decode prog_14_method_43_code 124 = .ok (.iload 4, 2) := by decide +kernel
theorem d_M_holds_126 : decode prog_14_method_43_code 126 = .ok (.iconst 1, 1) := by decide +kernel
theorem d_M_holds_127 : decode prog_14_method_43_code 127 = .ok (.isub, 1) := by decide +kernel
theorem d_M_holds_132 : decode prog_14_method_43_code 132 = .ok (.aload_n 0, 1) := by decide +kernel
theorem d_M_holds_136 : decode prog_14_method_43_code 136 = .ok (.iload 4, 2) := by decide +kernel
theorem d_M_holds_146 : decode prog_14_method_43_code 146 = .ok (.iconst 0, 1) := by decide +kernel
theorem d_M_holds_139 : decode prog_14_method_43_code 139 = .ok (.ifCond .eq 7, 3) := by decide +kernel
theorem d_M_holds_133 : decode prog_14_method_43_code 133 = .ok (.getfield 89, 3) := by decide +kernel
theorem d_M_holds_129 : decode prog_14_method_43_code 129 = .ok (.ifCond .ne 13, 3) := by decide +kernel
theorem d_M_holds_142 : decode prog_14_method_43_code 142 = .ok (.iconst 1, 1) := by decide +kernel
theorem d_M_holds_143 : decode prog_14_method_43_code 143 = .ok (.goto 4, 3) := by decide +kernel
theorem d_M_holds_121 : decode prog_14_method_43_code 121 = .ok (.getfield 89, 3) := by decide +kernel
theorem d_M_holds_90 : decode prog_14_method_43_code 90 = .ok (.aload_n 0, 1) := by decide +kernel
theorem d_M_holds_94 : decode prog_14_method_43_code 94 = .ok (.iload 4, 2) := by decide +kernel
theorem d_M_holds_96 : decode prog_14_method_43_code 96 = .ok (.iconst 1, 1) := by decide +kernel
theorem d_M_holds_97 : decode prog_14_method_43_code 97 = .ok (.isub, 1) := by decide +kernel
theorem d_M_holds_102 : decode prog_14_method_43_code 102 = .ok (.aload_n 0, 1) := by decide +kernel
theorem d_M_holds_106 : decode prog_14_method_43_code 106 = .ok (.iload 4, 2) := by decide +kernel
theorem d_M_holds_112 : decode prog_14_method_43_code 112 = .ok (.iconst 1, 1) := by decide +kernel
theorem d_M_holds_113 : decode prog_14_method_43_code 113 = .ok (.goto 34, 3) := by decide +kernel
theorem d_M_holds_109 : decode prog_14_method_43_code 109 = .ok (.ifCond .eq 7, 3) := by decide +kernel
theorem d_M_holds_103 : decode prog_14_method_43_code 103 = .ok (.getfield 89, 3) := by decide +kernel
theorem d_M_holds_99 : decode prog_14_method_43_code 99 = .ok (.ifCond .eq 17, 3) := by decide +kernel
theorem d_M_holds_116 : decode prog_14_method_43_code 116 = .ok (.iconst 0, 1) := by decide +kernel
theorem d_M_holds_117 : decode prog_14_method_43_code 117 = .ok (.goto 30, 3) := by decide +kernel
theorem d_M_holds_91 : decode prog_14_method_43_code 91 = .ok (.getfield 89, 3) := by decide +kernel
theorem d_M_holds_87 : decode prog_14_method_43_code 87 = .ok (.if_icmp .ne 33, 3) := by decide +kernel
theorem d_M_holds_148 : decode prog_14_method_43_code 148 = .ok (.goto 99, 3) := by decide +kernel
theorem d_M_holds_147 : decode prog_14_method_43_code 147 = .ok (.bastore, 1) := by decide +kernel
theorem d_M_holds_76 : decode prog_14_method_43_code 76 = .ok (.getfield 89, 3) := by decide +kernel
theorem d_M_holds_69 : decode prog_14_method_43_code 69 = .ok (.ifCond .ge 82, 3) := by decide +kernel
theorem d_M_holds_38 : decode prog_14_method_43_code 38 = .ok (.aload_n 0, 1) := by decide +kernel
theorem d_M_holds_42 : decode prog_14_method_43_code 42 = .ok (.iload 4, 2) := by decide +kernel
theorem d_M_holds_44 : decode prog_14_method_43_code 44 = .ok (.iconst 1, 1) := by decide +kernel
theorem d_M_holds_45 : decode prog_14_method_43_code 45 = .ok (.isub, 1) := by decide +kernel
theorem d_M_holds_46 : decode prog_14_method_43_code 46 = .ok (.aload_n 0, 1) := by decide +kernel
theorem d_M_holds_50 : decode prog_14_method_43_code 50 = .ok (.iload 4, 2) := by decide +kernel
theorem d_M_holds_52 : decode prog_14_method_43_code 52 = .ok (.iconst 1, 1) := by decide +kernel
theorem d_M_holds_53 : decode prog_14_method_43_code 53 = .ok (.isub, 1) := by decide +kernel
theorem d_M_holds_62 : decode prog_14_method_43_code 62 = .ok (.iconst 0, 1) := by decide +kernel
theorem d_M_holds_58 : decode prog_14_method_43_code 58 = .ok (.iconst 1, 1) := by decide +kernel
theorem d_M_holds_59 : decode prog_14_method_43_code 59 = .ok (.goto 4, 3) := by decide +kernel
theorem d_M_holds_55 : decode prog_14_method_43_code 55 = .ok (.ifCond .ne 7, 3) := by decide +kernel
theorem d_M_holds_64 : decode prog_14_method_43_code 64 = .ok (.goto 183, 3) := by decide +kernel
theorem d_M_holds_63 : decode prog_14_method_43_code 63 = .ok (.bastore, 1) := by decide +kernel
theorem d_M_holds_47 : decode prog_14_method_43_code 47 = .ok (.getfield 89, 3) := by decide +kernel
theorem d_M_holds_39 : decode prog_14_method_43_code 39 = .ok (.getfield 89, 3) := by decide +kernel
theorem d_M_holds_35 : decode prog_14_method_43_code 35 = .ok (.if_icmp .ne 32, 3) := by decide +kernel
theorem d_M_holds_247 : decode prog_14_method_43_code 247 = .ok (.iinc 5 1, 3) := by decide +kernel
theorem d_M_holds_250 : decode prog_14_method_43_code 250 = .ok (.goto (-239), 3) := by decide +kernel
theorem d_M_holds_23 : decode prog_14_method_43_code 23 = .ok (.getfield 71, 3) := by decide +kernel
theorem d_M_holds_19 : decode prog_14_method_43_code 19 = .ok (.if_icmp .ge 234, 3) := by decide +kernel
theorem d_M_holds_14 : decode prog_14_method_43_code 14 = .ok (.getfield 68, 3) := by decide +kernel
theorem d_M_holds_18 : decode prog_14_method_43_code 18 = .ok (.iaload, 1) := by decide +kernel
theorem d_M_holds_28 : decode prog_14_method_43_code 28 = .ok (.iaload, 1) := by decide +kernel
theorem d_M_holds_128 : decode prog_14_method_43_code 128 = .ok (.baload, 1) := by decide +kernel
theorem d_M_holds_138 : decode prog_14_method_43_code 138 = .ok (.baload, 1) := by decide +kernel
theorem d_M_holds_98 : decode prog_14_method_43_code 98 = .ok (.baload, 1) := by decide +kernel
theorem d_M_holds_108 : decode prog_14_method_43_code 108 = .ok (.baload, 1) := by decide +kernel
theorem d_M_holds_54 : decode prog_14_method_43_code 54 = .ok (.baload, 1) := by decide +kernel
set_option maxRecDepth 10000 in
set_option maxHeartbeats 4000000 in
theorem W_M_holds_11 {q : QT} {z : ZT} {ν : Ml} {f4 : Int32} {f5 : Int32} {f6 : Int32} {k : Mm → Option (Int32 × Mm)} (C : Ctx sdM q z prog_14_method_43_code "BesideTomModel" 9 1 (some (FieldType.boolean))) (hk : ∀ (me_ : Mm), R sdM q z 9 (φIm ν) (k me_) me_ ν 253 [(0, .ref (q.2.2.1 0))] []) : ∀ (n : Nat) (s2 : Int32) (s3 : Int32) (μ7 : Mm), R sdM q z 9 (φIm ν) (L_M_holds_11 f4 f5 f6 k n s2 s3 μ7) μ7 ν 11 [(4, .int s2), (5, .int s3), (0, .ref (q.2.2.1 0)), (1, .int f4), (2, .int f5), (3, .int f6)] [] := by
  intro n
  induction n with
  | zero =>
    intros
    exact R_none
  | succ n ih =>
    intro s2 s3 μ7
    rw [L_M_holds_11]
    refine R_iload C 1 d_M_holds_11 rfl ?_
    refine R_aload_n C 2 d_M_holds_13 rfl rfl ?_
    refine gf_M_to C fl_M_68 d_M_holds_14 ?_
    refine R_iload_n C 3 d_M_holds_17 rfl rfl ?_
    refine R_iald C mm_19 (mc_19 q _ _) d_M_holds_18 (fun v8 => ?_)
    refine R_icmp_ge C d_M_holds_19 (tgt := 253) (by decide) ?_ ?_
    · skip
      exact R_sub [2] rfl (hk μ7)
    · skip
      refine R_aload_n C 2 d_M_holds_22 rfl rfl ?_
      refine gf_M_sign C fl_M_71 d_M_holds_23 ?_
      refine R_iload C 1 d_M_holds_26 rfl ?_
      refine R_iald C mm_20 (mc_20 q _ _) d_M_holds_28 (fun v9 => ?_)
      refine R_istore C (lv' := [(6, .int v9), (4, .int s2), (5, .int s3), (0, .ref (q.2.2.1 0)), (1, .int f4), (2, .int f5), (3, .int f6)]) d_M_holds_29 (by decide) rfl ?_
      refine R_iload C 0 d_M_holds_31 rfl ?_
      refine R_bipush C d_M_holds_33 (v := (-33)) (by decide +kernel) ?_
      refine R_jn (fun K31 => ∀ (j29 : Int32) (μ30 : Mm), R sdM q z 9 (φIm ν) (K31 (j29, μ30)) μ30 ν 247 [(0, .ref (q.2.2.1 0)), (1, .int f4), (2, .int f5), (3, .int f6), (4, .int j29), (5, .int s3)] []) ?_ (fun K31 hK31 => ?_)
      · intro j29 μ30
        refine R_iinc C 5 d_M_holds_247 rfl (iinc_v _ (v := 1) (by decide +kernel)) (lv' := [(5, .int (s3 + 1)), (0, .ref (q.2.2.1 0)), (1, .int f4), (2, .int f5), (3, .int f6), (4, .int j29)]) (by decide) rfl ?_
        refine R_goto C d_M_holds_250 (tgt := 11) (by decide) ?_
        exact R_sub [5, 0, 1, 2, 3, 4] rfl (ih j29 (s3 + 1) μ30)
      · skip
        refine R_icmp_ne C d_M_holds_35 (tgt := 67) (by decide) ?_ ?_
        · skip
          refine R_iload C 0 d_M_holds_67 rfl ?_
          refine R_if_ge C d_M_holds_69 (tgt := 151) (by decide) ?_ ?_
          · skip
            refine R_aload_n C 3 d_M_holds_151 rfl rfl ?_
            refine R_iload C 0 d_M_holds_152 rfl ?_
            refine R_sipush C d_M_holds_154 (v := 1000) (by decide +kernel) ?_
            refine R_idiv C d_M_holds_157 (by decide) ?_
            refine R_iload_n C 5 d_M_holds_158 rfl rfl ?_
            refine R_iload_n C 6 d_M_holds_159 rfl rfl ?_
            refine R_bind (fun v10 h11 => ?_)
            refine R_callV C mm_0 (mc_0 q _ _) rfl cf_M_factOf rfl ml_M_312 im_M_factOf sl_M_M_factOf_M_factOf (c_M_factOf (gk C) h11) (by decide) (by decide) rfl rfl (Nat.le_of_ble_eq_true rfl) d_M_holds_160 ?_
            refine R_istore C (lv' := [(7, .int v10), (6, .int v9), (4, .int s2), (5, .int s3), (0, .ref (q.2.2.1 0)), (1, .int f4), (2, .int f5), (3, .int f6)]) d_M_holds_163 (by decide) rfl ?_
            refine R_iload C 1 d_M_holds_165 rfl ?_
            refine R_bipush C d_M_holds_167 (v := 100) (by decide +kernel) ?_
            refine R_idiv C d_M_holds_169 (by decide) ?_
            refine R_bipush C d_M_holds_170 (v := 10) (by decide +kernel) ?_
            refine R_irem C d_M_holds_172 (by decide) ?_
            refine R_nm (fun x12 => ?_)
            refine R_istore C (lv' := [(8, .int x12), (7, .int v10), (6, .int v9), (4, .int s2), (5, .int s3), (0, .ref (q.2.2.1 0)), (1, .int f4), (2, .int f5), (3, .int f6)]) d_M_holds_173 (by decide) rfl ?_
            refine R_aload_n C 5 d_M_holds_175 rfl rfl ?_
            refine gf_M_pile C fl_M_89 d_M_holds_176 ?_
            refine R_iload C 3 d_M_holds_179 rfl ?_
            refine R_iload C 0 d_M_holds_181 rfl ?_
            refine R_jn (fun K15 => ∀ (j13 : Int32), R sdM q z 9 (φIm ν) (K15 j13) μ7 ν 243 [(0, .ref (q.2.2.1 0)), (1, .int f4), (2, .int f5), (3, .int f6), (4, .int s2), (5, .int s3)] [.int j13, .int s2, .ref (q.2.2.1 26)]) ?_ (fun K15 hK15 => ?_)
            · intro j13
              refine R_zast C mm_26 (fun h => mc_26 q h _) d_M_holds_243 (fun μ14 => ?_)
              refine R_iinc C 4 d_M_holds_244 rfl (iinc_v _ (v := 1) (by decide +kernel)) (lv' := [(4, .int (s2 + 1)), (0, .ref (q.2.2.1 0)), (1, .int f4), (2, .int f5), (3, .int f6), (5, .int s3)]) (by decide) rfl ?_
              exact R_sub [1, 2, 3, 4, 0, 5] rfl (hK31 (s2 + 1) μ14)
            · skip
              refine R_if_ne C d_M_holds_183 (tgt := 204) (by decide) ?_ ?_
              · skip
                refine R_iload C 0 d_M_holds_204 rfl ?_
                refine R_iconst C d_M_holds_206 (v := 1) (by decide +kernel) ?_
                refine R_icmp_ne C d_M_holds_207 (tgt := 228) (by decide) ?_ ?_
                · skip
                  refine R_iload C 1 d_M_holds_228 rfl ?_
                  refine R_iload C 2 d_M_holds_230 rfl ?_
                  refine R_bipush C d_M_holds_232 (v := 100) (by decide +kernel) ?_
                  refine R_irem C d_M_holds_234 (by decide) ?_
                  refine R_icmp_le C d_M_holds_235 (tgt := 242) (by decide) ?_ ?_
                  · skip
                    refine R_iconst C d_M_holds_242 (v := 0) (by decide +kernel) ?_
                    exact R_sub [5, 6, 7, 8, 3, 4] rfl (hK15 0)
                  · skip
                    refine R_iconst C d_M_holds_238 (v := 1) (by decide +kernel) ?_
                    refine R_goto C d_M_holds_239 (tgt := 243) (by decide) ?_
                    exact R_sub [5, 6, 7, 8, 3, 4] rfl (hK15 1)
                · skip
                  refine R_iload C 1 d_M_holds_210 rfl ?_
                  refine R_iload C 2 d_M_holds_212 rfl ?_
                  refine R_bipush C d_M_holds_214 (v := 100) (by decide +kernel) ?_
                  refine R_irem C d_M_holds_216 (by decide) ?_
                  refine R_icmp_ne C d_M_holds_217 (tgt := 224) (by decide) ?_ ?_
                  · skip
                    refine R_iconst C d_M_holds_224 (v := 0) (by decide +kernel) ?_
                    refine R_goto C d_M_holds_225 (tgt := 243) (by decide) ?_
                    exact R_sub [5, 6, 7, 8, 3, 4] rfl (hK15 0)
                  · skip
                    refine R_iconst C d_M_holds_220 (v := 1) (by decide +kernel) ?_
                    refine R_goto C d_M_holds_221 (tgt := 243) (by decide) ?_
                    exact R_sub [5, 6, 7, 8, 3, 4] rfl (hK15 1)
              · skip
                refine R_iload C 1 d_M_holds_186 rfl ?_
                refine R_iload C 2 d_M_holds_188 rfl ?_
                refine R_bipush C d_M_holds_190 (v := 100) (by decide +kernel) ?_
                refine R_irem C d_M_holds_192 (by decide) ?_
                refine R_icmp_ge C d_M_holds_193 (tgt := 200) (by decide) ?_ ?_
                · skip
                  refine R_iconst C d_M_holds_200 (v := 0) (by decide +kernel) ?_
                  refine R_goto C d_M_holds_201 (tgt := 243) (by decide) ?_
                  exact R_sub [5, 6, 7, 8, 3, 4] rfl (hK15 0)
                · skip
                  refine R_iconst C d_M_holds_196 (v := 1) (by decide +kernel) ?_
                  refine R_goto C d_M_holds_197 (tgt := 243) (by decide) ?_
                  exact R_sub [5, 6, 7, 8, 3, 4] rfl (hK15 1)
          · skip
            refine R_iinc C 1 d_M_holds_72 rfl (iinc_v _ (v := (-1)) (by decide +kernel)) (lv' := [(4, .int (s2 + (-1))), (6, .int v9), (5, .int s3), (0, .ref (q.2.2.1 0)), (1, .int f4), (2, .int f5), (3, .int f6)]) (by decide) rfl ?_
            refine R_aload_n C 3 d_M_holds_75 rfl rfl ?_
            refine gf_M_pile C fl_M_89 d_M_holds_76 ?_
            refine R_iload C 0 d_M_holds_79 rfl ?_
            refine R_iconst C d_M_holds_81 (v := 1) (by decide +kernel) ?_
            refine R_isub C d_M_holds_82 ?_
            refine R_iload C 1 d_M_holds_83 rfl ?_
            refine R_bipush C d_M_holds_85 (v := (-38)) (by decide +kernel) ?_
            refine R_jn (fun K24 => ∀ (j22 : Int32), R sdM q z 9 (φIm ν) (K24 j22) μ7 ν 147 [(0, .ref (q.2.2.1 0)), (1, .int f4), (2, .int f5), (3, .int f6), (4, .int (s2 + (-1))), (5, .int s3)] [.int j22, .int ((s2 + (-1)) - 1), .ref (q.2.2.1 26)]) ?_ (fun K24 hK24 => ?_)
            · intro j22
              refine R_zast C mm_26 (fun h => mc_26 q h _) d_M_holds_147 (fun μ23 => ?_)
              refine R_goto C d_M_holds_148 (tgt := 247) (by decide) ?_
              exact R_sub [0, 1, 2, 3, 4, 5] rfl (hK31 (s2 + (-1)) μ23)
            · skip
              refine R_icmp_ne C d_M_holds_87 (tgt := 120) (by decide) ?_ ?_
              · skip
                refine R_aload_n C 3 d_M_holds_120 rfl rfl ?_
                refine gf_M_pile C fl_M_89 d_M_holds_121 ?_
                refine R_iload C 0 d_M_holds_124 rfl ?_
                refine R_iconst C d_M_holds_126 (v := 1) (by decide +kernel) ?_
                refine R_isub C d_M_holds_127 ?_
                refine R_zald C mm_26 (mc_26 q _ _) d_M_holds_128 (fun v16 => ?_)
                refine R_jn (fun K18 => R sdM q z 9 (φIm ν) (K18 ()) μ7 ν 142 [(0, .ref (q.2.2.1 0)), (1, .int f4), (2, .int f5), (3, .int f6), (4, .int (s2 + (-1))), (5, .int s3)] [.int ((s2 + (-1)) - 1), .ref (q.2.2.1 26)]) ?_ (fun K18 hK18 => ?_)
                · skip
                  refine R_iconst C d_M_holds_142 (v := 1) (by decide +kernel) ?_
                  refine R_goto C d_M_holds_143 (tgt := 147) (by decide) ?_
                  exact R_sub [0, 1, 2, 3, 4, 5] rfl (hK24 1)
                · skip
                  refine R_if_ne C d_M_holds_129 (tgt := 142) (by decide) ?_ ?_
                  · skip
                    exact R_sub [3, 4, 5, 6, 0, 2] rfl (hK18)
                  · skip
                    refine R_aload_n C 3 d_M_holds_132 rfl rfl ?_
                    refine gf_M_pile C fl_M_89 d_M_holds_133 ?_
                    refine R_iload C 0 d_M_holds_136 rfl ?_
                    refine R_zald C mm_26 (mc_26 q _ _) d_M_holds_138 (fun v17 => ?_)
                    refine R_if_eq C d_M_holds_139 (tgt := 146) (by decide) ?_ ?_
                    · skip
                      refine R_iconst C d_M_holds_146 (v := 0) (by decide +kernel) ?_
                      exact R_sub [3, 4, 5, 6, 0, 2] rfl (hK24 0)
                    · skip
                      exact R_sub [3, 4, 5, 6, 0, 2] rfl (hK18)
              · skip
                refine R_aload_n C 3 d_M_holds_90 rfl rfl ?_
                refine gf_M_pile C fl_M_89 d_M_holds_91 ?_
                refine R_iload C 0 d_M_holds_94 rfl ?_
                refine R_iconst C d_M_holds_96 (v := 1) (by decide +kernel) ?_
                refine R_isub C d_M_holds_97 ?_
                refine R_zald C mm_26 (mc_26 q _ _) d_M_holds_98 (fun v19 => ?_)
                refine R_jn (fun K21 => R sdM q z 9 (φIm ν) (K21 ()) μ7 ν 116 [(0, .ref (q.2.2.1 0)), (1, .int f4), (2, .int f5), (3, .int f6), (4, .int (s2 + (-1))), (5, .int s3)] [.int ((s2 + (-1)) - 1), .ref (q.2.2.1 26)]) ?_ (fun K21 hK21 => ?_)
                · skip
                  refine R_iconst C d_M_holds_116 (v := 0) (by decide +kernel) ?_
                  refine R_goto C d_M_holds_117 (tgt := 147) (by decide) ?_
                  exact R_sub [0, 1, 2, 3, 4, 5] rfl (hK24 0)
                · skip
                  refine R_if_eq C d_M_holds_99 (tgt := 116) (by decide) ?_ ?_
                  · skip
                    exact R_sub [3, 4, 5, 6, 0, 2] rfl (hK21)
                  · skip
                    refine R_aload_n C 3 d_M_holds_102 rfl rfl ?_
                    refine gf_M_pile C fl_M_89 d_M_holds_103 ?_
                    refine R_iload C 0 d_M_holds_106 rfl ?_
                    refine R_zald C mm_26 (mc_26 q _ _) d_M_holds_108 (fun v20 => ?_)
                    refine R_if_eq C d_M_holds_109 (tgt := 116) (by decide) ?_ ?_
                    · skip
                      exact R_sub [3, 4, 5, 6, 0, 2] rfl (hK21)
                    · skip
                      refine R_iconst C d_M_holds_112 (v := 1) (by decide +kernel) ?_
                      refine R_goto C d_M_holds_113 (tgt := 147) (by decide) ?_
                      exact R_sub [3, 4, 5, 6, 0, 2] rfl (hK24 1)
        · skip
          refine R_aload_n C 3 d_M_holds_38 rfl rfl ?_
          refine gf_M_pile C fl_M_89 d_M_holds_39 ?_
          refine R_iload C 1 d_M_holds_42 rfl ?_
          refine R_iconst C d_M_holds_44 (v := 1) (by decide +kernel) ?_
          refine R_isub C d_M_holds_45 ?_
          refine R_aload_n C 3 d_M_holds_46 rfl rfl ?_
          refine gf_M_pile C fl_M_89 d_M_holds_47 ?_
          refine R_iload C 1 d_M_holds_50 rfl ?_
          refine R_iconst C d_M_holds_52 (v := 1) (by decide +kernel) ?_
          refine R_isub C d_M_holds_53 ?_
          refine R_zald C mm_26 (mc_26 q _ _) d_M_holds_54 (fun v25 => ?_)
          refine R_jn (fun K28 => ∀ (j26 : Int32), R sdM q z 9 (φIm ν) (K28 j26) μ7 ν 63 [(0, .ref (q.2.2.1 0)), (1, .int f4), (2, .int f5), (3, .int f6), (4, .int s2), (5, .int s3)] [.int j26, .int (s2 - 1), .ref (q.2.2.1 26)]) ?_ (fun K28 hK28 => ?_)
          · intro j26
            refine R_zast C mm_26 (fun h => mc_26 q h _) d_M_holds_63 (fun μ27 => ?_)
            refine R_goto C d_M_holds_64 (tgt := 247) (by decide) ?_
            exact R_sub [0, 1, 2, 3, 4, 5] rfl (hK31 s2 μ27)
          · skip
            refine R_if_ne C d_M_holds_55 (tgt := 62) (by decide) ?_ ?_
            · skip
              refine R_iconst C d_M_holds_62 (v := 0) (by decide +kernel) ?_
              exact R_sub [3, 4, 5, 6, 1, 2] rfl (hK28 0)
            · skip
              refine R_iconst C d_M_holds_58 (v := 1) (by decide +kernel) ?_
              refine R_goto C d_M_holds_59 (tgt := 63) (by decide) ?_
              exact R_sub [3, 4, 5, 6, 1, 2] rfl (hK28 1)
theorem d_M_holds_253 : decode prog_14_method_43_code 253 = .ok (.aload_n 0, 1) := by decide +kernel
theorem d_M_holds_257 : decode prog_14_method_43_code 257 = .ok (.iconst 0, 1) := by decide +kernel
theorem d_M_holds_259 : decode prog_14_method_43_code 259 = .ok (.ireturn, 1) := by decide +kernel
theorem d_M_holds_254 : decode prog_14_method_43_code 254 = .ok (.getfield 89, 3) := by decide +kernel
theorem d_M_holds_4 : decode prog_14_method_43_code 4 = .ok (.getfield 65, 3) := by decide +kernel
theorem d_M_holds_8 : decode prog_14_method_43_code 8 = .ok (.iaload, 1) := by decide +kernel
theorem d_M_holds_258 : decode prog_14_method_43_code 258 = .ok (.baload, 1) := by decide +kernel
set_option maxRecDepth 10000 in
set_option maxHeartbeats 4000000 in
theorem w_M_holds {q : QT} {z : ZT} {a1 : Int32} {a2 : Int32} {a3 : Int32} {μ : Mm} {ν : Ml} (C : Ctx sdM q z prog_14_method_43_code "BesideTomModel" 9 1 (some (FieldType.boolean))) : R sdM q z 9 (φIm ν) (F_M_holds a1 a2 a3 μ) μ ν 0 [(0, .ref (q.2.2.1 0)), (1, .int a1), (2, .int a2), (3, .int a3)] [] := by
  unfold F_M_holds
  refine R_iconst C d_M_holds_0 (v := 0) (by decide +kernel) ?_
  refine R_istore C (lv' := [(4, .int 0), (0, .ref (q.2.2.1 0)), (1, .int a1), (2, .int a2), (3, .int a3)]) d_M_holds_1 (by decide) rfl ?_
  refine R_aload_n C 1 d_M_holds_3 rfl rfl ?_
  refine gf_M_from C fl_M_65 d_M_holds_4 ?_
  refine R_iload_n C 2 d_M_holds_7 rfl rfl ?_
  refine R_iald C mm_18 (mc_18 q _ _) d_M_holds_8 (fun v1 => ?_)
  refine R_istore C (lv' := [(5, .int v1), (4, .int 0), (0, .ref (q.2.2.1 0)), (1, .int a1), (2, .int a2), (3, .int a3)]) d_M_holds_9 (by decide) rfl ?_
  refine R_sub [1, 0, 2, 3, 4, 5] rfl ?_
  refine W_M_holds_11 C ?_ fu _ _ _
  intro μ32
  refine R_aload_n C 0 d_M_holds_253 rfl rfl ?_
  refine gf_M_pile C fl_M_89 d_M_holds_254 ?_
  refine R_iconst C d_M_holds_257 (v := 0) (by decide +kernel) ?_
  refine R_zald C mm_26 (mc_26 q _ _) d_M_holds_258 (fun v33 => ?_)
  exact R_zretG C (fun a => ⟨_, rfl, rfl⟩) d_M_holds_259
theorem c_M_holds {q : QT} (hg : GOk sdM q) {a1 : Int32} {a2 : Int32} {a3 : Int32} {μ : Mm} {ν : Ml} {o : Int32 × Mm} (ho : F_M_holds a1 a2 a3 μ = some o) : Ct sdM q y_M_holds prog_14_method_43_code 9 (some (FieldType.boolean)) 1 [.ref (q.2.2.1 0), .int a1, .int a2, .int a3] μ ν ((φIm ν) o).1 ((φIm ν) o).2.1 ((φIm ν) o).2.2 := Ct_of rfl hg (fun z C => w_M_holds C) (Nat.le_of_ble_eq_true rfl) ho
def F_M_isDesk (a1 : Int32) : Option (Int32) := (F_M_in a1 0 5).bind fun v1 => (rZ v1).bind fun r_ => some r_
theorem d_M_isDesk_0 : decode prog_14_method_8_code 0 = .ok (.aload_n 0, 1) := by decide +kernel
theorem d_M_isDesk_1 : decode prog_14_method_8_code 1 = .ok (.iload_n 1, 1) := by decide +kernel
theorem d_M_isDesk_2 : decode prog_14_method_8_code 2 = .ok (.iconst 0, 1) := by decide +kernel
theorem d_M_isDesk_3 : decode prog_14_method_8_code 3 = .ok (.iconst 5, 1) := by decide +kernel
theorem d_M_isDesk_4 : decode prog_14_method_8_code 4 = .ok (.invokevirtual 225, 3) := by decide +kernel
theorem d_M_isDesk_7 : decode prog_14_method_8_code 7 = .ok (.ireturn, 1) := by decide +kernel
set_option maxRecDepth 10000 in
set_option maxHeartbeats 4000000 in
theorem w_M_isDesk {q : QT} {z : ZT} {a1 : Int32} {μ : Mm} {ν : Ml} (C : Ctx sdM q z prog_14_method_8_code "BesideTomModel" 2 1 (some (FieldType.boolean))) : R sdM q z 2 (φI μ ν) (F_M_isDesk a1) μ ν 0 [(0, .ref (q.2.2.1 0)), (1, .int a1)] [] := by
  unfold F_M_isDesk
  refine R_aload_n C 0 d_M_isDesk_0 rfl rfl ?_
  refine R_iload_n C 1 d_M_isDesk_1 rfl rfl ?_
  refine R_iconst C d_M_isDesk_2 (v := 0) (by decide +kernel) ?_
  refine R_iconst C d_M_isDesk_3 (v := 5) (by decide +kernel) ?_
  refine R_bind (fun v1 h2 => ?_)
  refine R_callV C mm_0 (mc_0 q _ _) rfl cf_M_in rfl ml_M_225 im_M_in sl_M_M_in_M_in (c_M_in (gk C) h2) (by decide) (by decide) rfl rfl (Nat.le_of_ble_eq_true rfl) d_M_isDesk_4 ?_
  exact R_zretG C (fun a => ⟨_, rfl, rfl⟩) d_M_isDesk_7
theorem c_M_isDesk {q : QT} (hg : GOk sdM q) {a1 : Int32} {μ : Mm} {ν : Ml} {o : Int32} (ho : F_M_isDesk a1 = some o) : Ct sdM q y_M_isDesk prog_14_method_8_code 2 (some (FieldType.boolean)) 1 [.ref (q.2.2.1 0), .int a1] μ ν ((φI μ ν) o).1 ((φI μ ν) o).2.1 ((φI μ ν) o).2.2 := Ct_of rfl hg (fun z C => w_M_isDesk C) (Nat.le_of_ble_eq_true rfl) ho
