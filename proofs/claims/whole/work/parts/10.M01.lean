def L_M_allKnow_4 (μ : Mm) (k : Int32 → Option (Int32)) : Nat → Int32 → Int32 → Option (Int32)
  | 0, _, _ => none
  | n + 1, s1, s2 => (if (μ 0 0) ≤ s2 then k s1 else (rdI (μ 7) 6 s2).bind fun v3 => L_M_allKnow_4 μ k n (s1 + v3) (s2 + 1))
def F_M_allKnow (μ : Mm) : Option (Int32) := L_M_allKnow_4 μ (fun (x4 : Int32) => some x4) fu 0 0
theorem d_M_allKnow_0 : decode prog_14_method_53_code 0 = .ok (.iconst 0, 1) := by decide +kernel
theorem d_M_allKnow_1 : decode prog_14_method_53_code 1 = .ok (.istore_n 1, 1) := by decide +kernel
theorem d_M_allKnow_2 : decode prog_14_method_53_code 2 = .ok (.iconst 0, 1) := by decide +kernel
theorem d_M_allKnow_3 : decode prog_14_method_53_code 3 = .ok (.istore_n 2, 1) := by decide +kernel
theorem d_M_allKnow_4 : decode prog_14_method_53_code 4 = .ok (.iload_n 2, 1) := by decide +kernel
theorem d_M_allKnow_5 : decode prog_14_method_53_code 5 = .ok (.aload_n 0, 1) := by decide +kernel
theorem d_M_allKnow_12 : decode prog_14_method_53_code 12 = .ok (.iload_n 1, 1) := by decide +kernel
theorem d_M_allKnow_13 : decode prog_14_method_53_code 13 = .ok (.aload_n 0, 1) := by decide +kernel
theorem d_M_allKnow_17 : decode prog_14_method_53_code 17 = .ok (.iload_n 2, 1) := by decide +kernel
theorem d_M_allKnow_19 : decode prog_14_method_53_code 19 = .ok (.iadd, 1) := by decide +kernel
theorem d_M_allKnow_20 : decode prog_14_method_53_code 20 = .ok (.istore_n 1, 1) := by decide +kernel
theorem d_M_allKnow_21 : decode prog_14_method_53_code 21 = .ok (.iinc 2 1, 3) := by decide +kernel
theorem d_M_allKnow_24 : decode prog_14_method_53_code 24 = .ok (.goto (-20), 3) := by decide +kernel
theorem d_M_allKnow_14 : decode prog_14_method_53_code 14 = .ok (.getfield 32, 3) := by decide +kernel
theorem d_M_allKnow_9 : decode prog_14_method_53_code 9 = .ok (.if_icmp .ge 18, 3) := by decide +kernel
theorem d_M_allKnow_6 : decode prog_14_method_53_code 6 = .ok (.getfield 7, 3) := by decide +kernel
theorem d_M_allKnow_18 : decode prog_14_method_53_code 18 = .ok (.iaload, 1) := by decide +kernel
set_option maxRecDepth 10000 in
set_option maxHeartbeats 4000000 in
theorem W_M_allKnow_4 {q : QT} {z : ZT} {μ : Mm} {ν : Ml} {k : Int32 → Option (Int32)} (C : Ctx sdM q z prog_14_method_53_code "BesideTomModel" 3 0 (some (FieldType.int))) (hk : ∀ (e0_ : Int32), R sdM q z 3 (φI μ ν) (k e0_) μ ν 27 [(1, .int e0_)] []) : ∀ (n : Nat) (s1 : Int32) (s2 : Int32), R sdM q z 3 (φI μ ν) (L_M_allKnow_4 μ k n s1 s2) μ ν 4 [(1, .int s1), (2, .int s2), (0, .ref (q.2.2.1 0))] [] := by
  intro n
  induction n with
  | zero =>
    intros
    exact R_none
  | succ n ih =>
    intro s1 s2
    rw [L_M_allKnow_4]
    refine R_iload_n C 1 d_M_allKnow_4 rfl rfl ?_
    refine R_aload_n C 2 d_M_allKnow_5 rfl rfl ?_
    refine gf_M_pupils C fl_M_7 d_M_allKnow_6 ?_
    refine R_icmp_ge C d_M_allKnow_9 (tgt := 27) (by decide) ?_ ?_
    · skip
      exact R_sub [0] rfl (hk s1)
    · skip
      refine R_iload_n C 0 d_M_allKnow_12 rfl rfl ?_
      refine R_aload_n C 2 d_M_allKnow_13 rfl rfl ?_
      refine gf_M_knew C fl_M_32 d_M_allKnow_14 ?_
      refine R_iload_n C 1 d_M_allKnow_17 rfl rfl ?_
      refine R_iald C mm_7 (mc_7 q _ _) d_M_allKnow_18 (fun v3 => ?_)
      refine R_iadd C d_M_allKnow_19 ?_
      refine R_istore_n C (lv' := [(1, .int (s1 + v3)), (2, .int s2), (0, .ref (q.2.2.1 0))]) d_M_allKnow_20 rfl (by decide) rfl ?_
      refine R_iinc C 1 d_M_allKnow_21 rfl (iinc_v _ (v := 1) (by decide +kernel)) (lv' := [(2, .int (s2 + 1)), (1, .int (s1 + v3)), (0, .ref (q.2.2.1 0))]) (by decide) rfl ?_
      refine R_goto C d_M_allKnow_24 (tgt := 4) (by decide) ?_
      exact R_sub [1, 0, 2] rfl (ih (s1 + v3) (s2 + 1))
theorem d_M_allKnow_27 : decode prog_14_method_53_code 27 = .ok (.iload_n 1, 1) := by decide +kernel
theorem d_M_allKnow_28 : decode prog_14_method_53_code 28 = .ok (.ireturn, 1) := by decide +kernel
set_option maxRecDepth 10000 in
set_option maxHeartbeats 4000000 in
theorem w_M_allKnow {q : QT} {z : ZT} {μ : Mm} {ν : Ml} (C : Ctx sdM q z prog_14_method_53_code "BesideTomModel" 3 0 (some (FieldType.int))) : R sdM q z 3 (φI μ ν) (F_M_allKnow μ) μ ν 0 [(0, .ref (q.2.2.1 0))] [] := by
  unfold F_M_allKnow
  refine R_iconst C d_M_allKnow_0 (v := 0) (by decide +kernel) ?_
  refine R_istore_n C (lv' := [(1, .int 0), (0, .ref (q.2.2.1 0))]) d_M_allKnow_1 rfl (by decide) rfl ?_
  refine R_iconst C d_M_allKnow_2 (v := 0) (by decide +kernel) ?_
  refine R_istore_n C (lv' := [(2, .int 0), (1, .int 0), (0, .ref (q.2.2.1 0))]) d_M_allKnow_3 rfl (by decide) rfl ?_
  refine R_sub [1, 0, 2] rfl ?_
  refine W_M_allKnow_4 C ?_ fu _ _
  intro x4
  refine R_iload_n C 0 d_M_allKnow_27 rfl rfl ?_
  exact R_iret C rfl d_M_allKnow_28
theorem c_M_allKnow {q : QT} (hg : GOk sdM q) {μ : Mm} {ν : Ml} {o : Int32} (ho : F_M_allKnow μ = some o) : Ct sdM q y_M_allKnow prog_14_method_53_code 3 (some (FieldType.int)) 0 [.ref (q.2.2.1 0)] μ ν ((φI μ ν) o).1 ((φI μ ν) o).2.1 ((φI μ ν) o).2.2 := Ct_of rfl hg (fun z C => w_M_allKnow C) (Nat.le_of_ble_eq_true rfl) ho
def F_M_begin (μ : Mm) : Option (Int32) := (if 0 ≤ (μ 0 10) then some (10 * (μ 0 10)) else some 0)
theorem d_M_begin_0 : decode prog_14_method_37_code 0 = .ok (.aload_n 0, 1) := by decide +kernel
theorem d_M_begin_11 : decode prog_14_method_37_code 11 = .ok (.bipush 10, 2) := by decide +kernel
theorem d_M_begin_13 : decode prog_14_method_37_code 13 = .ok (.aload_n 0, 1) := by decide +kernel
theorem d_M_begin_17 : decode prog_14_method_37_code 17 = .ok (.imul, 1) := by decide +kernel
theorem d_M_begin_18 : decode prog_14_method_37_code 18 = .ok (.ireturn, 1) := by decide +kernel
theorem d_M_begin_14 : decode prog_14_method_37_code 14 = .ok (.getfield 41, 3) := by decide +kernel
theorem d_M_begin_7 : decode prog_14_method_37_code 7 = .ok (.iconst 0, 1) := by decide +kernel
theorem d_M_begin_8 : decode prog_14_method_37_code 8 = .ok (.goto 10, 3) := by decide +kernel
theorem d_M_begin_4 : decode prog_14_method_37_code 4 = .ok (.ifCond .ge 7, 3) := by decide +kernel
theorem d_M_begin_1 : decode prog_14_method_37_code 1 = .ok (.getfield 41, 3) := by decide +kernel
set_option maxRecDepth 10000 in
set_option maxHeartbeats 4000000 in
theorem w_M_begin {q : QT} {z : ZT} {μ : Mm} {ν : Ml} (C : Ctx sdM q z prog_14_method_37_code "BesideTomModel" 1 0 (some (FieldType.int))) : R sdM q z 1 (φI μ ν) (F_M_begin μ) μ ν 0 [(0, .ref (q.2.2.1 0))] [] := by
  unfold F_M_begin
  refine R_aload_n C 0 d_M_begin_0 rfl rfl ?_
  refine gf_M_the C fl_M_41 d_M_begin_1 ?_
  refine R_if_ge C d_M_begin_4 (tgt := 11) (by decide) ?_ ?_
  · skip
    refine R_bipush C d_M_begin_11 (v := 10) (by decide +kernel) ?_
    refine R_aload_n C 0 d_M_begin_13 rfl rfl ?_
    refine gf_M_the C fl_M_41 d_M_begin_14 ?_
    refine R_imul C d_M_begin_17 ?_
    exact R_iret C rfl d_M_begin_18
  · skip
    refine R_iconst C d_M_begin_7 (v := 0) (by decide +kernel) ?_
    refine R_goto C d_M_begin_8 (tgt := 18) (by decide) ?_
    exact R_iret C rfl d_M_begin_18
theorem c_M_begin {q : QT} (hg : GOk sdM q) {μ : Mm} {ν : Ml} {o : Int32} (ho : F_M_begin μ = some o) : Ct sdM q y_M_begin prog_14_method_37_code 1 (some (FieldType.int)) 0 [.ref (q.2.2.1 0)] μ ν ((φI μ ν) o).1 ((φI μ ν) o).2.1 ((φI μ ν) o).2.2 := Ct_of rfl hg (fun z C => w_M_begin C) (Nat.le_of_ble_eq_true rfl) ho
def F_M_behind (μ : Mm) : Option (Int32) := (if 0 ≤ (μ 0 10) then (rdI (μ 15) 6 (μ 0 10)).bind fun v1 => some ((10 * (μ 0 10)) + v1) else some 0)
theorem d_M_behind_0 : decode prog_14_method_38_code 0 = .ok (.aload_n 0, 1) := by decide +kernel
theorem d_M_behind_11 : decode prog_14_method_38_code 11 = .ok (.bipush 10, 2) := by decide +kernel
theorem d_M_behind_13 : decode prog_14_method_38_code 13 = .ok (.aload_n 0, 1) := by decide +kernel
theorem d_M_behind_17 : decode prog_14_method_38_code 17 = .ok (.imul, 1) := by decide +kernel
theorem d_M_behind_18 : decode prog_14_method_38_code 18 = .ok (.aload_n 0, 1) := by decide +kernel
theorem d_M_behind_22 : decode prog_14_method_38_code 22 = .ok (.aload_n 0, 1) := by decide +kernel
theorem d_M_behind_27 : decode prog_14_method_38_code 27 = .ok (.iadd, 1) := by decide +kernel
theorem d_M_behind_28 : decode prog_14_method_38_code 28 = .ok (.ireturn, 1) := by decide +kernel
theorem d_M_behind_23 : decode prog_14_method_38_code 23 = .ok (.getfield 41, 3) := by decide +kernel
theorem d_M_behind_19 : decode prog_14_method_38_code 19 = .ok (.getfield 56, 3) := by decide +kernel
theorem d_M_behind_14 : decode prog_14_method_38_code 14 = .ok (.getfield 41, 3) := by decide +kernel
theorem d_M_behind_7 : decode prog_14_method_38_code 7 = .ok (.iconst 0, 1) := by decide +kernel
theorem d_M_behind_8 : decode prog_14_method_38_code 8 = .ok (.goto 20, 3) := by decide +kernel
theorem d_M_behind_4 : decode prog_14_method_38_code 4 = .ok (.ifCond .ge 7, 3) := by decide +kernel
theorem d_M_behind_1 : decode prog_14_method_38_code 1 = .ok (.getfield 41, 3) := by decide +kernel
theorem d_M_behind_26 : decode prog_14_method_38_code 26 = .ok (.iaload, 1) := by decide +kernel
set_option maxRecDepth 10000 in
set_option maxHeartbeats 4000000 in
theorem w_M_behind {q : QT} {z : ZT} {μ : Mm} {ν : Ml} (C : Ctx sdM q z prog_14_method_38_code "BesideTomModel" 1 0 (some (FieldType.int))) : R sdM q z 1 (φI μ ν) (F_M_behind μ) μ ν 0 [(0, .ref (q.2.2.1 0))] [] := by
  unfold F_M_behind
  refine R_aload_n C 0 d_M_behind_0 rfl rfl ?_
  refine gf_M_the C fl_M_41 d_M_behind_1 ?_
  refine R_if_ge C d_M_behind_4 (tgt := 11) (by decide) ?_ ?_
  · skip
    refine R_bipush C d_M_behind_11 (v := 10) (by decide +kernel) ?_
    refine R_aload_n C 0 d_M_behind_13 rfl rfl ?_
    refine gf_M_the C fl_M_41 d_M_behind_14 ?_
    refine R_imul C d_M_behind_17 ?_
    refine R_aload_n C 0 d_M_behind_18 rfl rfl ?_
    refine gf_M_clauses C fl_M_56 d_M_behind_19 ?_
    refine R_aload_n C 0 d_M_behind_22 rfl rfl ?_
    refine gf_M_the C fl_M_41 d_M_behind_23 ?_
    refine R_iald C mm_15 (mc_15 q _ _) d_M_behind_26 (fun v1 => ?_)
    refine R_iadd C d_M_behind_27 ?_
    exact R_iret C rfl d_M_behind_28
  · skip
    refine R_iconst C d_M_behind_7 (v := 0) (by decide +kernel) ?_
    refine R_goto C d_M_behind_8 (tgt := 28) (by decide) ?_
    exact R_iret C rfl d_M_behind_28
theorem c_M_behind {q : QT} (hg : GOk sdM q) {μ : Mm} {ν : Ml} {o : Int32} (ho : F_M_behind μ = some o) : Ct sdM q y_M_behind prog_14_method_38_code 1 (some (FieldType.int)) 0 [.ref (q.2.2.1 0)] μ ν ((φI μ ν) o).1 ((φI μ ν) o).2.1 ((φI μ ν) o).2.2 := Ct_of rfl hg (fun z C => w_M_behind C) (Nat.le_of_ble_eq_true rfl) ho
def F_M_body (a1 : Int32) (μ : Mm) : Option (Mm) := jn (α := Mm) (fun K4 => (if 20 ≤ (μ 0 63) then K4 μ else (wrI μ 64 20 (μ 0 63) a1).bind fun μ1 => K4 μ1)) (fun (μ2 : Mm) => lt_ (up2 μ2 0 63 ((μ2 0 63) + 1)) fun μ3 => some μ3)
theorem d_M_body_0 : decode prog_14_method_92_code 0 = .ok (.aload_n 0, 1) := by decide +kernel
theorem d_M_body_4 : decode prog_14_method_92_code 4 = .ok (.bipush 20, 2) := by decide +kernel
theorem d_M_body_9 : decode prog_14_method_92_code 9 = .ok (.aload_n 0, 1) := by decide +kernel
theorem d_M_body_13 : decode prog_14_method_92_code 13 = .ok (.aload_n 0, 1) := by decide +kernel
theorem d_M_body_17 : decode prog_14_method_92_code 17 = .ok (.iload_n 1, 1) := by decide +kernel
theorem d_M_body_18 : decode prog_14_method_92_code 18 = .ok (.iastore, 1) := by decide +kernel
theorem d_M_body_14 : decode prog_14_method_92_code 14 = .ok (.getfield 202, 3) := by decide +kernel
theorem d_M_body_10 : decode prog_14_method_92_code 10 = .ok (.getfield 205, 3) := by decide +kernel
theorem d_M_body_6 : decode prog_14_method_92_code 6 = .ok (.if_icmp .ge 13, 3) := by decide +kernel
theorem d_M_body_19 : decode prog_14_method_92_code 19 = .ok (.aload_n 0, 1) := by decide +kernel
theorem d_M_body_20 : decode prog_14_method_92_code 20 = .ok (.dup, 1) := by decide +kernel
theorem d_M_body_24 : decode prog_14_method_92_code 24 = .ok (.iconst 1, 1) := by decide +kernel
theorem d_M_body_25 : decode prog_14_method_92_code 25 = .ok (.iadd, 1) := by decide +kernel
theorem d_M_body_29 : decode prog_14_method_92_code 29 = .ok (.return_, 1) := by decide +kernel
theorem d_M_body_21 : decode prog_14_method_92_code 21 = .ok (.getfield 202, 3) := by decide +kernel
theorem d_M_body_1 : decode prog_14_method_92_code 1 = .ok (.getfield 202, 3) := by decide +kernel
theorem d_M_body_26 : decode prog_14_method_92_code 26 = .ok (.putfield 202, 3) := by decide +kernel
set_option maxRecDepth 10000 in
set_option maxHeartbeats 4000000 in
theorem w_M_body {q : QT} {z : ZT} {a1 : Int32} {μ : Mm} {ν : Ml} (C : Ctx sdM q z prog_14_method_92_code "BesideTomModel" 2 0 none) : R sdM q z 2 (φVm ν) (F_M_body a1 μ) μ ν 0 [(0, .ref (q.2.2.1 0)), (1, .int a1)] [] := by
  unfold F_M_body
  refine R_aload_n C 0 d_M_body_0 rfl rfl ?_
  refine gf_M_ran C fl_M_202 d_M_body_1 ?_
  refine R_bipush C d_M_body_4 (v := 20) (by decide +kernel) ?_
  refine R_jn (fun K4 => ∀ (μ2 : Mm), R sdM q z 2 (φVm ν) (K4 μ2) μ2 ν 19 [(0, .ref (q.2.2.1 0))] []) ?_ (fun K4 hK4 => ?_)
  · intro μ2
    refine R_aload_n C 0 d_M_body_19 rfl rfl ?_
    refine R_dup C d_M_body_20 rfl ?_
    refine gf_M_ran C fl_M_202 d_M_body_21 ?_
    refine R_iconst C d_M_body_24 (v := 1) (by decide +kernel) ?_
    refine R_iadd C d_M_body_25 ?_
    refine pf_M_ran C fl_M_202 d_M_body_26 (fun μ3 => ?_)
    exact R_vret C rfl d_M_body_29
  · skip
    refine R_icmp_ge C d_M_body_6 (tgt := 19) (by decide) ?_ ?_
    · skip
      exact R_sub [0] rfl (hK4 μ)
    · skip
      refine R_aload_n C 0 d_M_body_9 rfl rfl ?_
      refine gf_M_bodies C fl_M_205 d_M_body_10 ?_
      refine R_aload_n C 0 d_M_body_13 rfl rfl ?_
      refine gf_M_ran C fl_M_202 d_M_body_14 ?_
      refine R_iload_n C 1 d_M_body_17 rfl rfl ?_
      refine R_iast C mm_64 (fun h => mc_64 q h _) d_M_body_18 (fun μ1 => ?_)
      exact R_sub [0] rfl (hK4 μ1)
theorem c_M_body {q : QT} (hg : GOk sdM q) {a1 : Int32} {μ : Mm} {ν : Ml} {o : Mm} (ho : F_M_body a1 μ = some o) : Ct sdM q y_M_body prog_14_method_92_code 2 none 0 [.ref (q.2.2.1 0), .int a1] μ ν ((φVm ν) o).1 ((φVm ν) o).2.1 ((φVm ν) o).2.2 := Ct_of rfl hg (fun z C => w_M_body C) (Nat.le_of_ble_eq_true rfl) ho
def F_M_count (a1 : Int32) (μ : Mm) : Option (Int32) := (if a1 = 0 then some (μ 0 0) else if a1 = 1 then some (μ 0 9) else if a1 = 2 then some (μ 0 34) else if a1 = 3 then some (μ 0 37) else if a1 = 4 then some (μ 0 38) else if a1 = 5 then some (μ 0 11) else if a1 = 6 then some (μ 0 63) else some (-2))
theorem d_M_count_0 : decode prog_14_method_103_code 0 = .ok (.iload_n 1, 1) := by decide +kernel
theorem d_M_count_1 : decode prog_14_method_103_code 1 = .ok (.tableswitch 78 0 6 #[43, 48, 53, 58, 63, 68, 73], 43) := by decide +kernel
theorem d_M_count_44 : decode prog_14_method_103_code 44 = .ok (.aload_n 0, 1) := by decide +kernel
theorem d_M_count_48 : decode prog_14_method_103_code 48 = .ok (.ireturn, 1) := by decide +kernel
theorem d_M_count_45 : decode prog_14_method_103_code 45 = .ok (.getfield 7, 3) := by decide +kernel
theorem d_M_count_49 : decode prog_14_method_103_code 49 = .ok (.aload_n 0, 1) := by decide +kernel
theorem d_M_count_53 : decode prog_14_method_103_code 53 = .ok (.ireturn, 1) := by decide +kernel
theorem d_M_count_50 : decode prog_14_method_103_code 50 = .ok (.getfield 38, 3) := by decide +kernel
theorem d_M_count_54 : decode prog_14_method_103_code 54 = .ok (.aload_n 0, 1) := by decide +kernel
theorem d_M_count_58 : decode prog_14_method_103_code 58 = .ok (.ireturn, 1) := by decide +kernel
theorem d_M_count_55 : decode prog_14_method_103_code 55 = .ok (.getfield 114, 3) := by decide +kernel
theorem d_M_count_59 : decode prog_14_method_103_code 59 = .ok (.aload_n 0, 1) := by decide +kernel
theorem d_M_count_63 : decode prog_14_method_103_code 63 = .ok (.ireturn, 1) := by decide +kernel
theorem d_M_count_60 : decode prog_14_method_103_code 60 = .ok (.getfield 123, 3) := by decide +kernel
theorem d_M_count_64 : decode prog_14_method_103_code 64 = .ok (.aload_n 0, 1) := by decide +kernel
theorem d_M_count_68 : decode prog_14_method_103_code 68 = .ok (.ireturn, 1) := by decide +kernel
theorem d_M_count_65 : decode prog_14_method_103_code 65 = .ok (.getfield 126, 3) := by decide +kernel
theorem d_M_count_69 : decode prog_14_method_103_code 69 = .ok (.aload_n 0, 1) := by decide +kernel
theorem d_M_count_73 : decode prog_14_method_103_code 73 = .ok (.ireturn, 1) := by decide +kernel
theorem d_M_count_70 : decode prog_14_method_103_code 70 = .ok (.getfield 44, 3) := by decide +kernel
theorem d_M_count_74 : decode prog_14_method_103_code 74 = .ok (.aload_n 0, 1) := by decide +kernel
theorem d_M_count_78 : decode prog_14_method_103_code 78 = .ok (.ireturn, 1) := by decide +kernel
theorem d_M_count_75 : decode prog_14_method_103_code 75 = .ok (.getfield 202, 3) := by decide +kernel
theorem d_M_count_79 : decode prog_14_method_103_code 79 = .ok (.bipush (-2), 2) := by decide +kernel
theorem d_M_count_81 : decode prog_14_method_103_code 81 = .ok (.ireturn, 1) := by decide +kernel
set_option maxRecDepth 10000 in
set_option maxHeartbeats 4000000 in
theorem w_M_count {q : QT} {z : ZT} {a1 : Int32} {μ : Mm} {ν : Ml} (C : Ctx sdM q z prog_14_method_103_code "BesideTomModel" 2 0 (some (FieldType.int))) : R sdM q z 2 (φI μ ν) (F_M_count a1 μ) μ ν 0 [(0, .ref (q.2.2.1 0)), (1, .int a1)] [] := by
  unfold F_M_count
  refine R_iload_n C 1 d_M_count_0 rfl rfl ?_
  refine R_ite (fun e1 => ?_) (fun e1 => ?_)
  · refine R_tsw C e1 d_M_count_1 (tgt := 44) (by decide +kernel) (by decide +kernel) rfl (by decide) ?_
    refine R_aload_n C 0 d_M_count_44 rfl rfl ?_
    refine gf_M_pupils C fl_M_7 d_M_count_45 ?_
    exact R_iret C rfl d_M_count_48
  refine R_ite (fun e2 => ?_) (fun e2 => ?_)
  · refine R_tsw C e2 d_M_count_1 (tgt := 49) (by decide +kernel) (by decide +kernel) rfl (by decide) ?_
    refine R_aload_n C 0 d_M_count_49 rfl rfl ?_
    refine gf_M_rooms C fl_M_38 d_M_count_50 ?_
    exact R_iret C rfl d_M_count_53
  refine R_ite (fun e3 => ?_) (fun e3 => ?_)
  · refine R_tsw C e3 d_M_count_1 (tgt := 54) (by decide +kernel) (by decide +kernel) rfl (by decide) ?_
    refine R_aload_n C 0 d_M_count_54 rfl rfl ?_
    refine gf_M_heard C fl_M_114 d_M_count_55 ?_
    exact R_iret C rfl d_M_count_58
  refine R_ite (fun e4 => ?_) (fun e4 => ?_)
  · refine R_tsw C e4 d_M_count_1 (tgt := 59) (by decide +kernel) (by decide +kernel) rfl (by decide) ?_
    refine R_aload_n C 0 d_M_count_59 rfl rfl ?_
    refine gf_M_terms C fl_M_123 d_M_count_60 ?_
    exact R_iret C rfl d_M_count_63
  refine R_ite (fun e5 => ?_) (fun e5 => ?_)
  · refine R_tsw C e5 d_M_count_1 (tgt := 64) (by decide +kernel) (by decide +kernel) rfl (by decide) ?_
    refine R_aload_n C 0 d_M_count_64 rfl rfl ?_
    refine gf_M_books C fl_M_126 d_M_count_65 ?_
    exact R_iret C rfl d_M_count_68
  refine R_ite (fun e6 => ?_) (fun e6 => ?_)
  · refine R_tsw C e6 d_M_count_1 (tgt := 69) (by decide +kernel) (by decide +kernel) rfl (by decide) ?_
    refine R_aload_n C 0 d_M_count_69 rfl rfl ?_
    refine gf_M_fed C fl_M_44 d_M_count_70 ?_
    exact R_iret C rfl d_M_count_73
  refine R_ite (fun e7 => ?_) (fun e7 => ?_)
  · refine R_tsw C e7 d_M_count_1 (tgt := 74) (by decide +kernel) (by decide +kernel) rfl (by decide) ?_
    refine R_aload_n C 0 d_M_count_74 rfl rfl ?_
    refine gf_M_ran C fl_M_202 d_M_count_75 ?_
    exact R_iret C rfl d_M_count_78
  refine R_tswd C d_M_count_1 (tgt := 79) (sw_out (L := [0, 1, 2, 3, 4, 5, 6]) (n := 7) (by decide +kernel) (by decide +kernel) (List.forall_mem_cons.mpr ⟨e1, List.forall_mem_cons.mpr ⟨e2, List.forall_mem_cons.mpr ⟨e3, List.forall_mem_cons.mpr ⟨e4, List.forall_mem_cons.mpr ⟨e5, List.forall_mem_cons.mpr ⟨e6, List.forall_mem_cons.mpr ⟨e7, fun _ h => absurd h List.not_mem_nil⟩⟩⟩⟩⟩⟩⟩)) (by decide) ?_
  refine R_bipush C d_M_count_79 (v := (-2)) (by decide +kernel) ?_
  exact R_iret C rfl d_M_count_81
theorem c_M_count {q : QT} (hg : GOk sdM q) {a1 : Int32} {μ : Mm} {ν : Ml} {o : Int32} (ho : F_M_count a1 μ = some o) : Ct sdM q y_M_count prog_14_method_103_code 2 (some (FieldType.int)) 0 [.ref (q.2.2.1 0), .int a1] μ ν ((φI μ ν) o).1 ((φI μ ν) o).2.1 ((φI μ ν) o).2.2 := Ct_of rfl hg (fun z C => w_M_count C) (Nat.le_of_ble_eq_true rfl) ho
def L_M_divisor_5 (k : Int32 → Option (Int32)) : Nat → Int32 → Int32 → Option (Int32)
  | 0, _, _ => none
  | n + 1, s1, s2 => (if s2 = 0 then k s1 else if s2 = 0 then none else L_M_divisor_5 k n s2 (s1 - s1 / s2 * s2))
def F_M_divisor (a1 : Int32) (a2 : Int32) : Option (Int32) := L_M_divisor_5 (fun (x3 : Int32) => some x3) fu a1 a2
theorem d_M_divisor_0 : decode prog_14_method_81_code 0 = .ok (.iload_n 1, 1) := by decide +kernel
theorem d_M_divisor_1 : decode prog_14_method_81_code 1 = .ok (.istore_n 3, 1) := by decide +kernel
theorem d_M_divisor_2 : decode prog_14_method_81_code 2 = .ok (.iload_n 2, 1) := by decide +kernel
theorem d_M_divisor_3 : decode prog_14_method_81_code 3 = .ok (.istore 4, 2) := by decide +kernel
theorem d_M_divisor_5 : decode prog_14_method_81_code 5 = .ok (.iload 4, 2) := by decide +kernel
theorem d_M_divisor_10 : decode prog_14_method_81_code 10 = .ok (.iload_n 3, 1) := by decide +kernel
theorem d_M_divisor_11 : decode prog_14_method_81_code 11 = .ok (.iload 4, 2) := by decide +kernel
theorem d_M_divisor_14 : decode prog_14_method_81_code 14 = .ok (.istore 5, 2) := by decide +kernel
theorem d_M_divisor_16 : decode prog_14_method_81_code 16 = .ok (.iload 4, 2) := by decide +kernel
theorem d_M_divisor_18 : decode prog_14_method_81_code 18 = .ok (.istore_n 3, 1) := by decide +kernel
theorem d_M_divisor_19 : decode prog_14_method_81_code 19 = .ok (.iload 5, 2) := by decide +kernel
theorem d_M_divisor_21 : decode prog_14_method_81_code 21 = .ok (.istore 4, 2) := by decide +kernel
theorem d_M_divisor_23 : decode prog_14_method_81_code 23 = .ok (.goto (-18), 3) := by decide +kernel
theorem d_M_divisor_7 : decode prog_14_method_81_code 7 = .ok (.ifCond .eq 19, 3) := by decide +kernel
theorem d_M_divisor_13 : decode prog_14_method_81_code 13 = .ok (.irem, 1) := by decide +kernel
set_option maxRecDepth 10000 in
set_option maxHeartbeats 4000000 in
theorem W_M_divisor_5 {q : QT} {z : ZT} {μ : Mm} {ν : Ml} {k : Int32 → Option (Int32)} (C : Ctx sdM q z prog_14_method_81_code "BesideTomModel" 6 0 (some (FieldType.int))) (hk : ∀ (e0_ : Int32), R sdM q z 6 (φI μ ν) (k e0_) μ ν 26 [(3, .int e0_)] []) : ∀ (n : Nat) (s1 : Int32) (s2 : Int32), R sdM q z 6 (φI μ ν) (L_M_divisor_5 k n s1 s2) μ ν 5 [(3, .int s1), (4, .int s2)] [] := by
  intro n
  induction n with
  | zero =>
    intros
    exact R_none
  | succ n ih =>
    intro s1 s2
    rw [L_M_divisor_5]
    refine R_iload C 1 d_M_divisor_5 rfl ?_
    refine R_if_eq C d_M_divisor_7 (tgt := 26) (by decide) ?_ ?_
    · skip
      exact R_sub [0] rfl (hk s1)
    · skip
      refine R_iload_n C 0 d_M_divisor_10 rfl rfl ?_
      refine R_iload C 1 d_M_divisor_11 rfl ?_
      refine R_iremG C d_M_divisor_13 ?_
      refine R_istore C (lv' := [(5, .int (s1 - s1 / s2 * s2)), (3, .int s1), (4, .int s2)]) d_M_divisor_14 (by decide) rfl ?_
      refine R_iload C 2 d_M_divisor_16 rfl ?_
      refine R_istore_n C (lv' := [(3, .int s2), (5, .int (s1 - s1 / s2 * s2)), (4, .int s2)]) d_M_divisor_18 rfl (by decide) rfl ?_
      refine R_iload C 1 d_M_divisor_19 rfl ?_
      refine R_istore C (lv' := [(4, .int (s1 - s1 / s2 * s2)), (3, .int s2), (5, .int (s1 - s1 / s2 * s2))]) d_M_divisor_21 (by decide) rfl ?_
      refine R_goto C d_M_divisor_23 (tgt := 5) (by decide) ?_
      exact R_sub [1, 0] rfl (ih s2 (s1 - s1 / s2 * s2))
theorem d_M_divisor_26 : decode prog_14_method_81_code 26 = .ok (.iload_n 3, 1) := by decide +kernel
theorem d_M_divisor_27 : decode prog_14_method_81_code 27 = .ok (.ireturn, 1) := by decide +kernel
set_option maxRecDepth 10000 in
set_option maxHeartbeats 4000000 in
theorem w_M_divisor {q : QT} {z : ZT} {a1 : Int32} {a2 : Int32} {μ : Mm} {ν : Ml} (C : Ctx sdM q z prog_14_method_81_code "BesideTomModel" 6 0 (some (FieldType.int))) : R sdM q z 6 (φI μ ν) (F_M_divisor a1 a2) μ ν 0 [(0, .ref (q.2.2.1 0)), (1, .int a1), (2, .int a2)] [] := by
  unfold F_M_divisor
  refine R_iload_n C 1 d_M_divisor_0 rfl rfl ?_
  refine R_istore_n C (lv' := [(3, .int a1), (0, .ref (q.2.2.1 0)), (1, .int a1), (2, .int a2)]) d_M_divisor_1 rfl (by decide) rfl ?_
  refine R_iload_n C 3 d_M_divisor_2 rfl rfl ?_
  refine R_istore C (lv' := [(4, .int a2), (3, .int a1), (0, .ref (q.2.2.1 0)), (1, .int a1), (2, .int a2)]) d_M_divisor_3 (by decide) rfl ?_
  refine R_sub [1, 0] rfl ?_
  refine W_M_divisor_5 C ?_ fu _ _
  intro x3
  refine R_iload_n C 0 d_M_divisor_26 rfl rfl ?_
  exact R_iret C rfl d_M_divisor_27
theorem c_M_divisor {q : QT} (hg : GOk sdM q) {a1 : Int32} {a2 : Int32} {μ : Mm} {ν : Ml} {o : Int32} (ho : F_M_divisor a1 a2 = some o) : Ct sdM q y_M_divisor prog_14_method_81_code 6 (some (FieldType.int)) 0 [.ref (q.2.2.1 0), .int a1, .int a2] μ ν ((φI μ ν) o).1 ((φI μ ν) o).2.1 ((φI μ ν) o).2.2 := Ct_of rfl hg (fun z C => w_M_divisor C) (Nat.le_of_ble_eq_true rfl) ho
def F_M_emits (a1 : Int32) (μ : Mm) : Option (Mm) := (wrI μ 20 600 (μ 0 22) a1).bind fun μ1 => lt_ (up2 μ1 0 22 ((μ1 0 22) + 1)) fun μ2 => some μ2
theorem d_M_emits_0 : decode prog_14_method_27_code 0 = .ok (.aload_n 0, 1) := by decide +kernel
theorem d_M_emits_4 : decode prog_14_method_27_code 4 = .ok (.aload_n 0, 1) := by decide +kernel
theorem d_M_emits_8 : decode prog_14_method_27_code 8 = .ok (.iload_n 1, 1) := by decide +kernel
theorem d_M_emits_10 : decode prog_14_method_27_code 10 = .ok (.aload_n 0, 1) := by decide +kernel
theorem d_M_emits_11 : decode prog_14_method_27_code 11 = .ok (.dup, 1) := by decide +kernel
theorem d_M_emits_15 : decode prog_14_method_27_code 15 = .ok (.iconst 1, 1) := by decide +kernel
theorem d_M_emits_16 : decode prog_14_method_27_code 16 = .ok (.iadd, 1) := by decide +kernel
theorem d_M_emits_20 : decode prog_14_method_27_code 20 = .ok (.return_, 1) := by decide +kernel
theorem d_M_emits_12 : decode prog_14_method_27_code 12 = .ok (.getfield 77, 3) := by decide +kernel
theorem d_M_emits_9 : decode prog_14_method_27_code 9 = .ok (.iastore, 1) := by decide +kernel
theorem d_M_emits_5 : decode prog_14_method_27_code 5 = .ok (.getfield 77, 3) := by decide +kernel
theorem d_M_emits_1 : decode prog_14_method_27_code 1 = .ok (.getfield 71, 3) := by decide +kernel
theorem d_M_emits_17 : decode prog_14_method_27_code 17 = .ok (.putfield 77, 3) := by decide +kernel
set_option maxRecDepth 10000 in
set_option maxHeartbeats 4000000 in
theorem w_M_emits {q : QT} {z : ZT} {a1 : Int32} {μ : Mm} {ν : Ml} (C : Ctx sdM q z prog_14_method_27_code "BesideTomModel" 2 0 none) : R sdM q z 2 (φVm ν) (F_M_emits a1 μ) μ ν 0 [(0, .ref (q.2.2.1 0)), (1, .int a1)] [] := by
  unfold F_M_emits
  refine R_aload_n C 0 d_M_emits_0 rfl rfl ?_
  refine gf_M_sign C fl_M_71 d_M_emits_1 ?_
  refine R_aload_n C 0 d_M_emits_4 rfl rfl ?_
  refine gf_M_signs C fl_M_77 d_M_emits_5 ?_
  refine R_iload_n C 1 d_M_emits_8 rfl rfl ?_
  refine R_iast C mm_20 (fun h => mc_20 q h _) d_M_emits_9 (fun μ1 => ?_)
  refine R_aload_n C 0 d_M_emits_10 rfl rfl ?_
  refine R_dup C d_M_emits_11 rfl ?_
  refine gf_M_signs C fl_M_77 d_M_emits_12 ?_
  refine R_iconst C d_M_emits_15 (v := 1) (by decide +kernel) ?_
  refine R_iadd C d_M_emits_16 ?_
  refine pf_M_signs C fl_M_77 d_M_emits_17 (fun μ2 => ?_)
  exact R_vret C rfl d_M_emits_20
theorem c_M_emits {q : QT} (hg : GOk sdM q) {a1 : Int32} {μ : Mm} {ν : Ml} {o : Mm} (ho : F_M_emits a1 μ = some o) : Ct sdM q y_M_emits prog_14_method_27_code 2 none 0 [.ref (q.2.2.1 0), .int a1] μ ν ((φVm ν) o).1 ((φVm ν) o).2.1 ((φVm ν) o).2.2 := Ct_of rfl hg (fun z C => w_M_emits C) (Nat.le_of_ble_eq_true rfl) ho
def F_M_factOf (a1 : Int32) (a2 : Int32) (a3 : Int32) (μ : Mm) : Option (Int32) := (if a1 = 0 then some a2 else if a1 = 1 then some a3 else if a1 = 2 then (rdI (μ 4) 6 a2).bind fun v1 => some v1 else if a1 = 3 then (rdI (μ 5) 6 a2).bind fun v2 => some v2 else if a1 = 4 then some (a3 / 3) else some (a3 - a3 / 3 * 3))
theorem d_M_factOf_0 : decode prog_14_method_42_code 0 = .ok (.iload_n 1, 1) := by decide +kernel
theorem d_M_factOf_1 : decode prog_14_method_42_code 1 = .ok (.tableswitch 57 0 4 #[35, 37, 39, 46, 53], 35) := by decide +kernel
theorem d_M_factOf_36 : decode prog_14_method_42_code 36 = .ok (.iload_n 2, 1) := by decide +kernel
theorem d_M_factOf_37 : decode prog_14_method_42_code 37 = .ok (.ireturn, 1) := by decide +kernel
theorem d_M_factOf_38 : decode prog_14_method_42_code 38 = .ok (.iload_n 3, 1) := by decide +kernel
theorem d_M_factOf_39 : decode prog_14_method_42_code 39 = .ok (.ireturn, 1) := by decide +kernel
theorem d_M_factOf_40 : decode prog_14_method_42_code 40 = .ok (.aload_n 0, 1) := by decide +kernel
theorem d_M_factOf_44 : decode prog_14_method_42_code 44 = .ok (.iload_n 2, 1) := by decide +kernel
theorem d_M_factOf_46 : decode prog_14_method_42_code 46 = .ok (.ireturn, 1) := by decide +kernel
theorem d_M_factOf_41 : decode prog_14_method_42_code 41 = .ok (.getfield 22, 3) := by decide +kernel
theorem d_M_factOf_47 : decode prog_14_method_42_code 47 = .ok (.aload_n 0, 1) := by decide +kernel
theorem d_M_factOf_51 : decode prog_14_method_42_code 51 = .ok (.iload_n 2, 1) := by decide +kernel
theorem d_M_factOf_53 : decode prog_14_method_42_code 53 = .ok (.ireturn, 1) := by decide +kernel
theorem d_M_factOf_48 : decode prog_14_method_42_code 48 = .ok (.getfield 26, 3) := by decide +kernel
theorem d_M_factOf_54 : decode prog_14_method_42_code 54 = .ok (.iload_n 3, 1) := by decide +kernel
theorem d_M_factOf_55 : decode prog_14_method_42_code 55 = .ok (.iconst 3, 1) := by decide +kernel
theorem d_M_factOf_57 : decode prog_14_method_42_code 57 = .ok (.ireturn, 1) := by decide +kernel
theorem d_M_factOf_56 : decode prog_14_method_42_code 56 = .ok (.idiv, 1) := by decide +kernel
theorem d_M_factOf_58 : decode prog_14_method_42_code 58 = .ok (.iload_n 3, 1) := by decide +kernel
theorem d_M_factOf_59 : decode prog_14_method_42_code 59 = .ok (.iconst 3, 1) := by decide +kernel
theorem d_M_factOf_61 : decode prog_14_method_42_code 61 = .ok (.ireturn, 1) := by decide +kernel
theorem d_M_factOf_60 : decode prog_14_method_42_code 60 = .ok (.irem, 1) := by decide +kernel
theorem d_M_factOf_45 : decode prog_14_method_42_code 45 = .ok (.iaload, 1) := by decide +kernel
theorem d_M_factOf_52 : decode prog_14_method_42_code 52 = .ok (.iaload, 1) := by decide +kernel
set_option maxRecDepth 10000 in
set_option maxHeartbeats 4000000 in
theorem w_M_factOf {q : QT} {z : ZT} {a1 : Int32} {a2 : Int32} {a3 : Int32} {μ : Mm} {ν : Ml} (C : Ctx sdM q z prog_14_method_42_code "BesideTomModel" 4 0 (some (FieldType.int))) : R sdM q z 4 (φI μ ν) (F_M_factOf a1 a2 a3 μ) μ ν 0 [(0, .ref (q.2.2.1 0)), (1, .int a1), (2, .int a2), (3, .int a3)] [] := by
  unfold F_M_factOf
  refine R_iload_n C 1 d_M_factOf_0 rfl rfl ?_
  refine R_ite (fun e3 => ?_) (fun e3 => ?_)
  · refine R_tsw C e3 d_M_factOf_1 (tgt := 36) (by decide +kernel) (by decide +kernel) rfl (by decide) ?_
    refine R_iload_n C 2 d_M_factOf_36 rfl rfl ?_
    exact R_iret C rfl d_M_factOf_37
  refine R_ite (fun e4 => ?_) (fun e4 => ?_)
  · refine R_tsw C e4 d_M_factOf_1 (tgt := 38) (by decide +kernel) (by decide +kernel) rfl (by decide) ?_
    refine R_iload_n C 3 d_M_factOf_38 rfl rfl ?_
    exact R_iret C rfl d_M_factOf_39
  refine R_ite (fun e5 => ?_) (fun e5 => ?_)
  · refine R_tsw C e5 d_M_factOf_1 (tgt := 40) (by decide +kernel) (by decide +kernel) rfl (by decide) ?_
    refine R_aload_n C 0 d_M_factOf_40 rfl rfl ?_
    refine gf_M_kind C fl_M_22 d_M_factOf_41 ?_
    refine R_iload_n C 2 d_M_factOf_44 rfl rfl ?_
    refine R_iald C mm_4 (mc_4 q _ _) d_M_factOf_45 (fun v1 => ?_)
    exact R_iret C rfl d_M_factOf_46
  refine R_ite (fun e6 => ?_) (fun e6 => ?_)
  · refine R_tsw C e6 d_M_factOf_1 (tgt := 47) (by decide +kernel) (by decide +kernel) rfl (by decide) ?_
    refine R_aload_n C 0 d_M_factOf_47 rfl rfl ?_
    refine gf_M_v C fl_M_26 d_M_factOf_48 ?_
    refine R_iload_n C 2 d_M_factOf_51 rfl rfl ?_
    refine R_iald C mm_5 (mc_5 q _ _) d_M_factOf_52 (fun v2 => ?_)
    exact R_iret C rfl d_M_factOf_53
  refine R_ite (fun e7 => ?_) (fun e7 => ?_)
  · refine R_tsw C e7 d_M_factOf_1 (tgt := 54) (by decide +kernel) (by decide +kernel) rfl (by decide) ?_
    refine R_iload_n C 3 d_M_factOf_54 rfl rfl ?_
    refine R_iconst C d_M_factOf_55 (v := 3) (by decide +kernel) ?_
    refine R_idiv C d_M_factOf_56 (by decide) ?_
    exact R_iret C rfl d_M_factOf_57
  refine R_tswd C d_M_factOf_1 (tgt := 58) (sw_out (L := [0, 1, 2, 3, 4]) (n := 5) (by decide +kernel) (by decide +kernel) (List.forall_mem_cons.mpr ⟨e3, List.forall_mem_cons.mpr ⟨e4, List.forall_mem_cons.mpr ⟨e5, List.forall_mem_cons.mpr ⟨e6, List.forall_mem_cons.mpr ⟨e7, fun _ h => absurd h List.not_mem_nil⟩⟩⟩⟩⟩)) (by decide) ?_
  refine R_iload_n C 3 d_M_factOf_58 rfl rfl ?_
  refine R_iconst C d_M_factOf_59 (v := 3) (by decide +kernel) ?_
  refine R_irem C d_M_factOf_60 (by decide) ?_
  exact R_iret C rfl d_M_factOf_61
theorem c_M_factOf {q : QT} (hg : GOk sdM q) {a1 : Int32} {a2 : Int32} {a3 : Int32} {μ : Mm} {ν : Ml} {o : Int32} (ho : F_M_factOf a1 a2 a3 μ = some o) : Ct sdM q y_M_factOf prog_14_method_42_code 4 (some (FieldType.int)) 0 [.ref (q.2.2.1 0), .int a1, .int a2, .int a3] μ ν ((φI μ ν) o).1 ((φI μ ν) o).2.1 ((φI μ ν) o).2.2 := Ct_of rfl hg (fun z C => w_M_factOf C) (Nat.le_of_ble_eq_true rfl) ho
def F_M_goes (a1 : Int32) (a2 : Int32) (μ : Mm) : Option (Mm) := jn (α := Int32) (fun K3 => (if a2 = 0 then K3 ((μ 0 1) &&& ((1 <<< (a1 &&& 31)) ^^^ (-1))) else K3 ((μ 0 1) ||| (1 <<< (a1 &&& 31))))) (fun (j1 : Int32) => lt_ (up2 μ 0 1 j1) fun μ2 => some μ2)
theorem d_M_goes_0 : decode prog_14_method_13_code 0 = .ok (.aload_n 0, 1) := by decide +kernel
theorem d_M_goes_1 : decode prog_14_method_13_code 1 = .ok (.iload_n 2, 1) := by decide +kernel
theorem d_M_goes_16 : decode prog_14_method_13_code 16 = .ok (.aload_n 0, 1) := by decide +kernel
theorem d_M_goes_20 : decode prog_14_method_13_code 20 = .ok (.iconst 1, 1) := by decide +kernel
theorem d_M_goes_21 : decode prog_14_method_13_code 21 = .ok (.iload_n 1, 1) := by decide +kernel
theorem d_M_goes_22 : decode prog_14_method_13_code 22 = .ok (.ishl, 1) := by decide +kernel
theorem d_M_goes_23 : decode prog_14_method_13_code 23 = .ok (.iconst (-1), 1) := by decide +kernel
theorem d_M_goes_24 : decode prog_14_method_13_code 24 = .ok (.ixor, 1) := by decide +kernel
theorem d_M_goes_25 : decode prog_14_method_13_code 25 = .ok (.iand, 1) := by decide +kernel
theorem d_M_goes_17 : decode prog_14_method_13_code 17 = .ok (.getfield 13, 3) := by decide +kernel
theorem d_M_goes_5 : decode prog_14_method_13_code 5 = .ok (.aload_n 0, 1) := by decide +kernel
theorem d_M_goes_9 : decode prog_14_method_13_code 9 = .ok (.iconst 1, 1) := by decide +kernel
theorem d_M_goes_10 : decode prog_14_method_13_code 10 = .ok (.iload_n 1, 1) := by decide +kernel
theorem d_M_goes_11 : decode prog_14_method_13_code 11 = .ok (.ishl, 1) := by decide +kernel
theorem d_M_goes_12 : decode prog_14_method_13_code 12 = .ok (.ior, 1) := by decide +kernel
theorem d_M_goes_13 : decode prog_14_method_13_code 13 = .ok (.goto 13, 3) := by decide +kernel
theorem d_M_goes_6 : decode prog_14_method_13_code 6 = .ok (.getfield 13, 3) := by decide +kernel
theorem d_M_goes_2 : decode prog_14_method_13_code 2 = .ok (.ifCond .eq 14, 3) := by decide +kernel
theorem d_M_goes_29 : decode prog_14_method_13_code 29 = .ok (.return_, 1) := by decide +kernel
theorem d_M_goes_26 : decode prog_14_method_13_code 26 = .ok (.putfield 13, 3) := by decide +kernel
set_option maxRecDepth 10000 in
set_option maxHeartbeats 4000000 in
theorem w_M_goes {q : QT} {z : ZT} {a1 : Int32} {a2 : Int32} {μ : Mm} {ν : Ml} (C : Ctx sdM q z prog_14_method_13_code "BesideTomModel" 3 0 none) : R sdM q z 3 (φVm ν) (F_M_goes a1 a2 μ) μ ν 0 [(0, .ref (q.2.2.1 0)), (1, .int a1), (2, .int a2)] [] := by
  unfold F_M_goes
  refine R_aload_n C 0 d_M_goes_0 rfl rfl ?_
  refine R_iload_n C 2 d_M_goes_1 rfl rfl ?_
  refine R_jn (fun K3 => ∀ (j1 : Int32), R sdM q z 3 (φVm ν) (K3 j1) μ ν 26 [] [.int j1, .ref (q.2.2.1 0)]) ?_ (fun K3 hK3 => ?_)
  · intro j1
    refine pf_M_gone C fl_M_13 d_M_goes_26 (fun μ2 => ?_)
    exact R_vret C rfl d_M_goes_29
  · skip
    refine R_if_eq C d_M_goes_2 (tgt := 16) (by decide) ?_ ?_
    · skip
      refine R_aload_n C 0 d_M_goes_16 rfl rfl ?_
      refine gf_M_gone C fl_M_13 d_M_goes_17 ?_
      refine R_iconst C d_M_goes_20 (v := 1) (by decide +kernel) ?_
      refine R_iload_n C 1 d_M_goes_21 rfl rfl ?_
      refine R_ishl C d_M_goes_22 ?_
      refine R_iconst C d_M_goes_23 (v := (-1)) (by decide +kernel) ?_
      refine R_ixor C d_M_goes_24 ?_
      refine R_iand C d_M_goes_25 ?_
      exact R_sub [] rfl (hK3 ((μ 0 1) &&& ((1 <<< (a1 &&& 31)) ^^^ (-1))))
    · skip
      refine R_aload_n C 0 d_M_goes_5 rfl rfl ?_
      refine gf_M_gone C fl_M_13 d_M_goes_6 ?_
      refine R_iconst C d_M_goes_9 (v := 1) (by decide +kernel) ?_
      refine R_iload_n C 1 d_M_goes_10 rfl rfl ?_
      refine R_ishl C d_M_goes_11 ?_
      refine R_ior C d_M_goes_12 ?_
      refine R_goto C d_M_goes_13 (tgt := 26) (by decide) ?_
      exact R_sub [] rfl (hK3 ((μ 0 1) ||| (1 <<< (a1 &&& 31))))
theorem c_M_goes {q : QT} (hg : GOk sdM q) {a1 : Int32} {a2 : Int32} {μ : Mm} {ν : Ml} {o : Mm} (ho : F_M_goes a1 a2 μ = some o) : Ct sdM q y_M_goes prog_14_method_13_code 3 none 0 [.ref (q.2.2.1 0), .int a1, .int a2] μ ν ((φVm ν) o).1 ((φVm ν) o).2.1 ((φVm ν) o).2.2 := Ct_of rfl hg (fun z C => w_M_goes C) (Nat.le_of_ble_eq_true rfl) ho
def F_M_has (a1 : Int32) (a2 : Int32) : Option (Int32) := (if ((a1 >>> (a2 &&& 31)) &&& 1) = 1 then some 1 else some 0)
theorem d_M_has_0 : decode prog_14_method_3_code 0 = .ok (.iload_n 1, 1) := by decide +kernel
theorem d_M_has_1 : decode prog_14_method_3_code 1 = .ok (.iload_n 2, 1) := by decide +kernel
theorem d_M_has_2 : decode prog_14_method_3_code 2 = .ok (.ishr, 1) := by decide +kernel
theorem d_M_has_3 : decode prog_14_method_3_code 3 = .ok (.iconst 1, 1) := by decide +kernel
theorem d_M_has_4 : decode prog_14_method_3_code 4 = .ok (.iand, 1) := by decide +kernel
theorem d_M_has_5 : decode prog_14_method_3_code 5 = .ok (.iconst 1, 1) := by decide +kernel
theorem d_M_has_13 : decode prog_14_method_3_code 13 = .ok (.iconst 0, 1) := by decide +kernel
theorem d_M_has_14 : decode prog_14_method_3_code 14 = .ok (.ireturn, 1) := by decide +kernel
theorem d_M_has_9 : decode prog_14_method_3_code 9 = .ok (.iconst 1, 1) := by decide +kernel
theorem d_M_has_10 : decode prog_14_method_3_code 10 = .ok (.goto 4, 3) := by decide +kernel
theorem d_M_has_6 : decode prog_14_method_3_code 6 = .ok (.if_icmp .ne 7, 3) := by decide +kernel
set_option maxRecDepth 10000 in
set_option maxHeartbeats 4000000 in
theorem w_M_has {q : QT} {z : ZT} {a1 : Int32} {a2 : Int32} {μ : Mm} {ν : Ml} (C : Ctx sdM q z prog_14_method_3_code "BesideTomModel" 3 0 (some (FieldType.boolean))) : R sdM q z 3 (φI μ ν) (F_M_has a1 a2) μ ν 0 [(0, .ref (q.2.2.1 0)), (1, .int a1), (2, .int a2)] [] := by
  unfold F_M_has
  refine R_iload_n C 1 d_M_has_0 rfl rfl ?_
  refine R_iload_n C 2 d_M_has_1 rfl rfl ?_
  refine R_ishr C d_M_has_2 ?_
  refine R_iconst C d_M_has_3 (v := 1) (by decide +kernel) ?_
  refine R_iand C d_M_has_4 ?_
  refine R_iconst C d_M_has_5 (v := 1) (by decide +kernel) ?_
  refine R_icmp_ne C d_M_has_6 (tgt := 13) (by decide) ?_ ?_
  · skip
    refine R_iconst C d_M_has_13 (v := 0) (by decide +kernel) ?_
    exact R_zret C (by decide) rfl d_M_has_14
  · skip
    refine R_iconst C d_M_has_9 (v := 1) (by decide +kernel) ?_
    refine R_goto C d_M_has_10 (tgt := 14) (by decide) ?_
    exact R_zret C (by decide) rfl d_M_has_14
theorem c_M_has {q : QT} (hg : GOk sdM q) {a1 : Int32} {a2 : Int32} {μ : Mm} {ν : Ml} {o : Int32} (ho : F_M_has a1 a2 = some o) : Ct sdM q y_M_has prog_14_method_3_code 3 (some (FieldType.boolean)) 0 [.ref (q.2.2.1 0), .int a1, .int a2] μ ν ((φI μ ν) o).1 ((φI μ ν) o).2.1 ((φI μ ν) o).2.2 := Ct_of rfl hg (fun z C => w_M_has C) (Nat.le_of_ble_eq_true rfl) ho
def L_M_image_71 (k : Mm → Option (Int32 × Mm)) : Nat → Int32 → Mm → Option (Int32 × Mm)
  | 0, _, _ => none
  | n + 1, s10, μ11 => (if 6 ≤ s10 then k μ11 else (rdI (μ11 4) 6 s10).bind fun v12 => (wrI μ11 52 6 s10 v12).bind fun μ13 => (rdI (μ13 5) 6 s10).bind fun v14 => (wrI μ13 53 6 s10 v14).bind fun μ15 => (rdI (μ15 6) 6 s10).bind fun v16 => (wrI μ15 54 6 s10 v16).bind fun μ17 => (rdI (μ17 7) 6 s10).bind fun v18 => (wrI μ17 55 6 s10 v18).bind fun μ19 => L_M_image_71 k n (s10 + 1) μ19)
def L_M_image_133 (k : Mm → Option (Int32 × Mm)) : Nat → Int32 → Mm → Option (Int32 × Mm)
  | 0, _, _ => none
  | n + 1, s21, μ22 => (if 24 ≤ s21 then k μ22 else (rdI (μ22 8) 24 s21).bind fun v23 => (wrI μ22 56 24 s21 v23).bind fun μ24 => L_M_image_133 k n (s21 + 1) μ24)
def L_M_image_159 (k : Mm → Option (Int32 × Mm)) : Nat → Int32 → Mm → Option (Int32 × Mm)
  | 0, _, _ => none
  | n + 1, s26, μ27 => (if 5 ≤ s26 then k μ27 else (rdI (μ27 35) 5 s26).bind fun v28 => (wrI μ27 57 5 s26 v28).bind fun μ29 => (rdI (μ29 36) 5 s26).bind fun v30 => (wrI μ29 58 5 s26 v30).bind fun μ31 => L_M_image_159 k n (s26 + 1) μ31)
def L_M_image_196 (k : Mm → Option (Int32 × Mm)) : Nat → Int32 → Mm → Option (Int32 × Mm)
  | 0, _, _ => none
  | n + 1, s33, μ34 => (if 10 ≤ s33 then k μ34 else (rdI (μ34 39) 10 s33).bind fun v35 => (wrI μ34 59 10 s33 v35).bind fun μ36 => (rdI (μ36 40) 10 s33).bind fun v37 => (wrI μ36 60 10 s33 v37).bind fun μ38 => L_M_image_196 k n (s33 + 1) μ38)
def L_M_image_234 (k : Mm → Option (Int32 × Mm)) : Nat → Int32 → Mm → Option (Int32 × Mm)
  | 0, _, _ => none
  | n + 1, s40, μ41 => (if 8 ≤ s40 then k μ41 else (rdI (μ41 41) 8 s40).bind fun v42 => (wrI μ41 61 8 s40 v42).bind fun μ43 => (rdI (μ43 42) 8 s40).bind fun v44 => (wrI μ43 62 8 s40 v44).bind fun μ45 => L_M_image_234 k n (s40 + 1) μ45)
def F_M_image (μ : Mm) : Option (Int32 × Mm) := lt_ (up2 μ 0 43 1) fun μ1 => lt_ (up2 μ1 0 44 (μ1 0 10)) fun μ2 => lt_ (up2 μ2 0 45 (μ2 0 0)) fun μ3 => lt_ (up2 μ3 0 46 (μ3 0 1)) fun μ4 => lt_ (up2 μ4 0 47 (μ4 0 2)) fun μ5 => lt_ (up2 μ5 0 48 (μ5 0 3)) fun μ6 => lt_ (up2 μ6 0 49 (μ6 0 34)) fun μ7 => lt_ (up2 μ7 0 50 (μ7 0 37)) fun μ8 => lt_ (up2 μ8 0 51 (μ8 0 38)) fun μ9 => L_M_image_71 (fun (μ20 : Mm) => L_M_image_133 (fun (μ25 : Mm) => L_M_image_159 (fun (μ32 : Mm) => L_M_image_196 (fun (μ39 : Mm) => L_M_image_234 (fun (μ46 : Mm) => some ((μ46 0 0), μ46)) fu 0 μ39) fu 0 μ32) fu 0 μ25) fu 0 μ20) fu 0 μ9
theorem d_M_image_0 : decode prog_14_method_90_code 0 = .ok (.aload_n 0, 1) := by decide +kernel
theorem d_M_image_1 : decode prog_14_method_90_code 1 = .ok (.iconst 1, 1) := by decide +kernel
theorem d_M_image_5 : decode prog_14_method_90_code 5 = .ok (.aload_n 0, 1) := by decide +kernel
theorem d_M_image_6 : decode prog_14_method_90_code 6 = .ok (.aload_n 0, 1) := by decide +kernel
theorem d_M_image_13 : decode prog_14_method_90_code 13 = .ok (.aload_n 0, 1) := by decide +kernel
theorem d_M_image_14 : decode prog_14_method_90_code 14 = .ok (.aload_n 0, 1) := by decide +kernel
theorem d_M_image_21 : decode prog_14_method_90_code 21 = .ok (.aload_n 0, 1) := by decide +kernel
theorem d_M_image_22 : decode prog_14_method_90_code 22 = .ok (.aload_n 0, 1) := by decide +kernel
theorem d_M_image_29 : decode prog_14_method_90_code 29 = .ok (.aload_n 0, 1) := by decide +kernel
theorem d_M_image_30 : decode prog_14_method_90_code 30 = .ok (.aload_n 0, 1) := by decide +kernel
theorem d_M_image_37 : decode prog_14_method_90_code 37 = .ok (.aload_n 0, 1) := by decide +kernel
theorem d_M_image_38 : decode prog_14_method_90_code 38 = .ok (.aload_n 0, 1) := by decide +kernel
theorem d_M_image_45 : decode prog_14_method_90_code 45 = .ok (.aload_n 0, 1) := by decide +kernel
theorem d_M_image_46 : decode prog_14_method_90_code 46 = .ok (.aload_n 0, 1) := by decide +kernel
theorem d_M_image_53 : decode prog_14_method_90_code 53 = .ok (.aload_n 0, 1) := by decide +kernel
theorem d_M_image_54 : decode prog_14_method_90_code 54 = .ok (.aload_n 0, 1) := by decide +kernel
theorem d_M_image_61 : decode prog_14_method_90_code 61 = .ok (.aload_n 0, 1) := by decide +kernel
theorem d_M_image_62 : decode prog_14_method_90_code 62 = .ok (.aload_n 0, 1) := by decide +kernel
theorem d_M_image_69 : decode prog_14_method_90_code 69 = .ok (.iconst 0, 1) := by decide +kernel
theorem d_M_image_70 : decode prog_14_method_90_code 70 = .ok (.istore_n 1, 1) := by decide +kernel
theorem d_M_image_71 : decode prog_14_method_90_code 71 = .ok (.iload_n 1, 1) := by decide +kernel
theorem d_M_image_72 : decode prog_14_method_90_code 72 = .ok (.bipush 6, 2) := by decide +kernel
theorem d_M_image_77 : decode prog_14_method_90_code 77 = .ok (.aload_n 0, 1) := by decide +kernel
theorem d_M_image_81 : decode prog_14_method_90_code 81 = .ok (.iload_n 1, 1) := by decide +kernel
theorem d_M_image_82 : decode prog_14_method_90_code 82 = .ok (.aload_n 0, 1) := by decide +kernel
theorem d_M_image_86 : decode prog_14_method_90_code 86 = .ok (.iload_n 1, 1) := by decide +kernel
theorem d_M_image_89 : decode prog_14_method_90_code 89 = .ok (.aload_n 0, 1) := by decide +kernel
theorem d_M_image_93 : decode prog_14_method_90_code 93 = .ok (.iload_n 1, 1) := by decide +kernel
theorem d_M_image_94 : decode prog_14_method_90_code 94 = .ok (.aload_n 0, 1) := by decide +kernel
theorem d_M_image_98 : decode prog_14_method_90_code 98 = .ok (.iload_n 1, 1) := by decide +kernel
theorem d_M_image_101 : decode prog_14_method_90_code 101 = .ok (.aload_n 0, 1) := by decide +kernel
theorem d_M_image_105 : decode prog_14_method_90_code 105 = .ok (.iload_n 1, 1) := by decide +kernel
theorem d_M_image_106 : decode prog_14_method_90_code 106 = .ok (.aload_n 0, 1) := by decide +kernel
theorem d_M_image_110 : decode prog_14_method_90_code 110 = .ok (.iload_n 1, 1) := by decide +kernel
theorem d_M_image_113 : decode prog_14_method_90_code 113 = .ok (.aload_n 0, 1) := by decide +kernel
theorem d_M_image_117 : decode prog_14_method_90_code 117 = .ok (.iload_n 1, 1) := by decide +kernel
theorem d_M_image_118 : decode prog_14_method_90_code 118 = .ok (.aload_n 0, 1) := by decide +kernel
theorem d_M_image_122 : decode prog_14_method_90_code 122 = .ok (.iload_n 1, 1) := by decide +kernel
theorem d_M_image_125 : decode prog_14_method_90_code 125 = .ok (.iinc 1 1, 3) := by decide +kernel
theorem d_M_image_128 : decode prog_14_method_90_code 128 = .ok (.goto (-57), 3) := by decide +kernel
theorem d_M_image_124 : decode prog_14_method_90_code 124 = .ok (.iastore, 1) := by decide +kernel
theorem d_M_image_119 : decode prog_14_method_90_code 119 = .ok (.getfield 32, 3) := by decide +kernel
theorem d_M_image_114 : decode prog_14_method_90_code 114 = .ok (.getfield 178, 3) := by decide +kernel
theorem d_M_image_112 : decode prog_14_method_90_code 112 = .ok (.iastore, 1) := by decide +kernel
theorem d_M_image_107 : decode prog_14_method_90_code 107 = .ok (.getfield 29, 3) := by decide +kernel
theorem d_M_image_102 : decode prog_14_method_90_code 102 = .ok (.getfield 175, 3) := by decide +kernel
theorem d_M_image_100 : decode prog_14_method_90_code 100 = .ok (.iastore, 1) := by decide +kernel
theorem d_M_image_95 : decode prog_14_method_90_code 95 = .ok (.getfield 26, 3) := by decide +kernel
theorem d_M_image_90 : decode prog_14_method_90_code 90 = .ok (.getfield 172, 3) := by decide +kernel
theorem d_M_image_88 : decode prog_14_method_90_code 88 = .ok (.iastore, 1) := by decide +kernel
theorem d_M_image_83 : decode prog_14_method_90_code 83 = .ok (.getfield 22, 3) := by decide +kernel
theorem d_M_image_78 : decode prog_14_method_90_code 78 = .ok (.getfield 169, 3) := by decide +kernel
theorem d_M_image_74 : decode prog_14_method_90_code 74 = .ok (.if_icmp .ge 57, 3) := by decide +kernel
theorem d_M_image_87 : decode prog_14_method_90_code 87 = .ok (.iaload, 1) := by decide +kernel
theorem d_M_image_99 : decode prog_14_method_90_code 99 = .ok (.iaload, 1) := by decide +kernel
theorem d_M_image_111 : decode prog_14_method_90_code 111 = .ok (.iaload, 1) := by decide +kernel
theorem d_M_image_123 : decode prog_14_method_90_code 123 = .ok (.iaload, 1) := by decide +kernel
set_option maxRecDepth 10000 in
set_option maxHeartbeats 4000000 in
theorem W_M_image_71 {q : QT} {z : ZT} {ν : Ml} {k : Mm → Option (Int32 × Mm)} (C : Ctx sdM q z prog_14_method_90_code "BesideTomModel" 2 0 (some (FieldType.int))) (hk : ∀ (me_ : Mm), R sdM q z 2 (φIm ν) (k me_) me_ ν 131 [(0, .ref (q.2.2.1 0))] []) : ∀ (n : Nat) (s10 : Int32) (μ11 : Mm), R sdM q z 2 (φIm ν) (L_M_image_71 k n s10 μ11) μ11 ν 71 [(1, .int s10), (0, .ref (q.2.2.1 0))] [] := by
  intro n
  induction n with
  | zero =>
    intros
    exact R_none
  | succ n ih =>
    intro s10 μ11
    rw [L_M_image_71]
    refine R_iload_n C 0 d_M_image_71 rfl rfl ?_
    refine R_bipush C d_M_image_72 (v := 6) (by decide +kernel) ?_
    refine R_icmp_ge C d_M_image_74 (tgt := 131) (by decide) ?_ ?_
    · skip
      exact R_sub [1] rfl (hk μ11)
    · skip
      refine R_aload_n C 1 d_M_image_77 rfl rfl ?_
      refine gf_M_imageKind C fl_M_169 d_M_image_78 ?_
      refine R_iload_n C 0 d_M_image_81 rfl rfl ?_
      refine R_aload_n C 1 d_M_image_82 rfl rfl ?_
      refine gf_M_kind C fl_M_22 d_M_image_83 ?_
      refine R_iload_n C 0 d_M_image_86 rfl rfl ?_
      refine R_iald C mm_4 (mc_4 q _ _) d_M_image_87 (fun v12 => ?_)
      refine R_iast C mm_52 (fun h => mc_52 q h _) d_M_image_88 (fun μ13 => ?_)
      refine R_aload_n C 1 d_M_image_89 rfl rfl ?_
      refine gf_M_imageV C fl_M_172 d_M_image_90 ?_
      refine R_iload_n C 0 d_M_image_93 rfl rfl ?_
      refine R_aload_n C 1 d_M_image_94 rfl rfl ?_
      refine gf_M_v C fl_M_26 d_M_image_95 ?_
      refine R_iload_n C 0 d_M_image_98 rfl rfl ?_
      refine R_iald C mm_5 (mc_5 q _ _) d_M_image_99 (fun v14 => ?_)
      refine R_iast C mm_53 (fun h => mc_53 q h _) d_M_image_100 (fun μ15 => ?_)
      refine R_aload_n C 1 d_M_image_101 rfl rfl ?_
      refine gf_M_imageDesk C fl_M_175 d_M_image_102 ?_
      refine R_iload_n C 0 d_M_image_105 rfl rfl ?_
      refine R_aload_n C 1 d_M_image_106 rfl rfl ?_
      refine gf_M_desk C fl_M_29 d_M_image_107 ?_
      refine R_iload_n C 0 d_M_image_110 rfl rfl ?_
      refine R_iald C mm_6 (mc_6 q _ _) d_M_image_111 (fun v16 => ?_)
      refine R_iast C mm_54 (fun h => mc_54 q h _) d_M_image_112 (fun μ17 => ?_)
      refine R_aload_n C 1 d_M_image_113 rfl rfl ?_
      refine gf_M_imageKnew C fl_M_178 d_M_image_114 ?_
      refine R_iload_n C 0 d_M_image_117 rfl rfl ?_
      refine R_aload_n C 1 d_M_image_118 rfl rfl ?_
      refine gf_M_knew C fl_M_32 d_M_image_119 ?_
      refine R_iload_n C 0 d_M_image_122 rfl rfl ?_
      refine R_iald C mm_7 (mc_7 q _ _) d_M_image_123 (fun v18 => ?_)
      refine R_iast C mm_55 (fun h => mc_55 q h _) d_M_image_124 (fun μ19 => ?_)
      refine R_iinc C 0 d_M_image_125 rfl (iinc_v _ (v := 1) (by decide +kernel)) (lv' := [(1, .int (s10 + 1)), (0, .ref (q.2.2.1 0))]) (by decide) rfl ?_
      refine R_goto C d_M_image_128 (tgt := 71) (by decide) ?_
      exact R_sub [0, 1] rfl (ih (s10 + 1) μ19)
theorem d_M_image_131 : decode prog_14_method_90_code 131 = .ok (.iconst 0, 1) := by decide +kernel
theorem d_M_image_132 : decode prog_14_method_90_code 132 = .ok (.istore_n 1, 1) := by decide +kernel
theorem d_M_image_133 : decode prog_14_method_90_code 133 = .ok (.iload_n 1, 1) := by decide +kernel
theorem d_M_image_134 : decode prog_14_method_90_code 134 = .ok (.bipush 24, 2) := by decide +kernel
theorem d_M_image_139 : decode prog_14_method_90_code 139 = .ok (.aload_n 0, 1) := by decide +kernel
theorem d_M_image_143 : decode prog_14_method_90_code 143 = .ok (.iload_n 1, 1) := by decide +kernel
theorem d_M_image_144 : decode prog_14_method_90_code 144 = .ok (.aload_n 0, 1) := by decide +kernel
theorem d_M_image_148 : decode prog_14_method_90_code 148 = .ok (.iload_n 1, 1) := by decide +kernel
theorem d_M_image_151 : decode prog_14_method_90_code 151 = .ok (.iinc 1 1, 3) := by decide +kernel
theorem d_M_image_154 : decode prog_14_method_90_code 154 = .ok (.goto (-21), 3) := by decide +kernel
theorem d_M_image_150 : decode prog_14_method_90_code 150 = .ok (.iastore, 1) := by decide +kernel
theorem d_M_image_145 : decode prog_14_method_90_code 145 = .ok (.getfield 35, 3) := by decide +kernel
theorem d_M_image_140 : decode prog_14_method_90_code 140 = .ok (.getfield 181, 3) := by decide +kernel
theorem d_M_image_136 : decode prog_14_method_90_code 136 = .ok (.if_icmp .ge 21, 3) := by decide +kernel
theorem d_M_image_149 : decode prog_14_method_90_code 149 = .ok (.iaload, 1) := by decide +kernel
set_option maxRecDepth 10000 in
set_option maxHeartbeats 4000000 in
theorem W_M_image_133 {q : QT} {z : ZT} {ν : Ml} {k : Mm → Option (Int32 × Mm)} (C : Ctx sdM q z prog_14_method_90_code "BesideTomModel" 2 0 (some (FieldType.int))) (hk : ∀ (me_ : Mm), R sdM q z 2 (φIm ν) (k me_) me_ ν 157 [(0, .ref (q.2.2.1 0))] []) : ∀ (n : Nat) (s21 : Int32) (μ22 : Mm), R sdM q z 2 (φIm ν) (L_M_image_133 k n s21 μ22) μ22 ν 133 [(1, .int s21), (0, .ref (q.2.2.1 0))] [] := by
  intro n
  induction n with
  | zero =>
    intros
    exact R_none
  | succ n ih =>
    intro s21 μ22
    rw [L_M_image_133]
    refine R_iload_n C 0 d_M_image_133 rfl rfl ?_
    refine R_bipush C d_M_image_134 (v := 24) (by decide +kernel) ?_
    refine R_icmp_ge C d_M_image_136 (tgt := 157) (by decide) ?_ ?_
    · skip
      exact R_sub [1] rfl (hk μ22)
    · skip
      refine R_aload_n C 1 d_M_image_139 rfl rfl ?_
      refine gf_M_imageLines C fl_M_181 d_M_image_140 ?_
      refine R_iload_n C 0 d_M_image_143 rfl rfl ?_
      refine R_aload_n C 1 d_M_image_144 rfl rfl ?_
      refine gf_M_lines C fl_M_35 d_M_image_145 ?_
      refine R_iload_n C 0 d_M_image_148 rfl rfl ?_
      refine R_iald C mm_8 (mc_8 q _ _) d_M_image_149 (fun v23 => ?_)
      refine R_iast C mm_56 (fun h => mc_56 q h _) d_M_image_150 (fun μ24 => ?_)
      refine R_iinc C 0 d_M_image_151 rfl (iinc_v _ (v := 1) (by decide +kernel)) (lv' := [(1, .int (s21 + 1)), (0, .ref (q.2.2.1 0))]) (by decide) rfl ?_
      refine R_goto C d_M_image_154 (tgt := 133) (by decide) ?_
      exact R_sub [0, 1] rfl (ih (s21 + 1) μ24)
theorem d_M_image_157 : decode prog_14_method_90_code 157 = .ok (.iconst 0, 1) := by decide +kernel
theorem d_M_image_158 : decode prog_14_method_90_code 158 = .ok (.istore_n 1, 1) := by decide +kernel
theorem d_M_image_159 : decode prog_14_method_90_code 159 = .ok (.iload_n 1, 1) := by decide +kernel
theorem d_M_image_160 : decode prog_14_method_90_code 160 = .ok (.iconst 5, 1) := by decide +kernel
theorem d_M_image_164 : decode prog_14_method_90_code 164 = .ok (.aload_n 0, 1) := by decide +kernel
theorem d_M_image_168 : decode prog_14_method_90_code 168 = .ok (.iload_n 1, 1) := by decide +kernel
theorem d_M_image_169 : decode prog_14_method_90_code 169 = .ok (.aload_n 0, 1) := by decide +kernel
theorem d_M_image_173 : decode prog_14_method_90_code 173 = .ok (.iload_n 1, 1) := by decide +kernel
theorem d_M_image_176 : decode prog_14_method_90_code 176 = .ok (.aload_n 0, 1) := by decide +kernel
theorem d_M_image_180 : decode prog_14_method_90_code 180 = .ok (.iload_n 1, 1) := by decide +kernel
theorem d_M_image_181 : decode prog_14_method_90_code 181 = .ok (.aload_n 0, 1) := by decide +kernel
theorem d_M_image_185 : decode prog_14_method_90_code 185 = .ok (.iload_n 1, 1) := by decide +kernel
theorem d_M_image_188 : decode prog_14_method_90_code 188 = .ok (.iinc 1 1, 3) := by decide +kernel
theorem d_M_image_191 : decode prog_14_method_90_code 191 = .ok (.goto (-32), 3) := by decide +kernel
theorem d_M_image_187 : decode prog_14_method_90_code 187 = .ok (.iastore, 1) := by decide +kernel
theorem d_M_image_182 : decode prog_14_method_90_code 182 = .ok (.getfield 120, 3) := by decide +kernel
theorem d_M_image_177 : decode prog_14_method_90_code 177 = .ok (.getfield 187, 3) := by decide +kernel
theorem d_M_image_175 : decode prog_14_method_90_code 175 = .ok (.iastore, 1) := by decide +kernel
theorem d_M_image_170 : decode prog_14_method_90_code 170 = .ok (.getfield 117, 3) := by decide +kernel
theorem d_M_image_165 : decode prog_14_method_90_code 165 = .ok (.getfield 184, 3) := by decide +kernel
theorem d_M_image_161 : decode prog_14_method_90_code 161 = .ok (.if_icmp .ge 33, 3) := by decide +kernel
theorem d_M_image_174 : decode prog_14_method_90_code 174 = .ok (.iaload, 1) := by decide +kernel
theorem d_M_image_186 : decode prog_14_method_90_code 186 = .ok (.iaload, 1) := by decide +kernel
set_option maxRecDepth 10000 in
set_option maxHeartbeats 4000000 in
theorem W_M_image_159 {q : QT} {z : ZT} {ν : Ml} {k : Mm → Option (Int32 × Mm)} (C : Ctx sdM q z prog_14_method_90_code "BesideTomModel" 2 0 (some (FieldType.int))) (hk : ∀ (me_ : Mm), R sdM q z 2 (φIm ν) (k me_) me_ ν 194 [(0, .ref (q.2.2.1 0))] []) : ∀ (n : Nat) (s26 : Int32) (μ27 : Mm), R sdM q z 2 (φIm ν) (L_M_image_159 k n s26 μ27) μ27 ν 159 [(1, .int s26), (0, .ref (q.2.2.1 0))] [] := by
  intro n
  induction n with
  | zero =>
    intros
    exact R_none
  | succ n ih =>
    intro s26 μ27
    rw [L_M_image_159]
    refine R_iload_n C 0 d_M_image_159 rfl rfl ?_
    refine R_iconst C d_M_image_160 (v := 5) (by decide +kernel) ?_
    refine R_icmp_ge C d_M_image_161 (tgt := 194) (by decide) ?_ ?_
    · skip
      exact R_sub [1] rfl (hk μ27)
    · skip
      refine R_aload_n C 1 d_M_image_164 rfl rfl ?_
      refine gf_M_imageNoise C fl_M_184 d_M_image_165 ?_
      refine R_iload_n C 0 d_M_image_168 rfl rfl ?_
      refine R_aload_n C 1 d_M_image_169 rfl rfl ?_
      refine gf_M_heardNoise C fl_M_117 d_M_image_170 ?_
      refine R_iload_n C 0 d_M_image_173 rfl rfl ?_
      refine R_iald C mm_35 (mc_35 q _ _) d_M_image_174 (fun v28 => ?_)
      refine R_iast C mm_57 (fun h => mc_57 q h _) d_M_image_175 (fun μ29 => ?_)
      refine R_aload_n C 1 d_M_image_176 rfl rfl ?_
      refine gf_M_imageWhen C fl_M_187 d_M_image_177 ?_
      refine R_iload_n C 0 d_M_image_180 rfl rfl ?_
      refine R_aload_n C 1 d_M_image_181 rfl rfl ?_
      refine gf_M_heardWhen C fl_M_120 d_M_image_182 ?_
      refine R_iload_n C 0 d_M_image_185 rfl rfl ?_
      refine R_iald C mm_36 (mc_36 q _ _) d_M_image_186 (fun v30 => ?_)
      refine R_iast C mm_58 (fun h => mc_58 q h _) d_M_image_187 (fun μ31 => ?_)
      refine R_iinc C 0 d_M_image_188 rfl (iinc_v _ (v := 1) (by decide +kernel)) (lv' := [(1, .int (s26 + 1)), (0, .ref (q.2.2.1 0))]) (by decide) rfl ?_
      refine R_goto C d_M_image_191 (tgt := 159) (by decide) ?_
      exact R_sub [0, 1] rfl (ih (s26 + 1) μ31)
theorem d_M_image_194 : decode prog_14_method_90_code 194 = .ok (.iconst 0, 1) := by decide +kernel
theorem d_M_image_195 : decode prog_14_method_90_code 195 = .ok (.istore_n 1, 1) := by decide +kernel
theorem d_M_image_196 : decode prog_14_method_90_code 196 = .ok (.iload_n 1, 1) := by decide +kernel
theorem d_M_image_197 : decode prog_14_method_90_code 197 = .ok (.bipush 10, 2) := by decide +kernel
theorem d_M_image_202 : decode prog_14_method_90_code 202 = .ok (.aload_n 0, 1) := by decide +kernel
theorem d_M_image_206 : decode prog_14_method_90_code 206 = .ok (.iload_n 1, 1) := by decide +kernel
theorem d_M_image_207 : decode prog_14_method_90_code 207 = .ok (.aload_n 0, 1) := by decide +kernel
theorem d_M_image_211 : decode prog_14_method_90_code 211 = .ok (.iload_n 1, 1) := by decide +kernel
theorem d_M_image_214 : decode prog_14_method_90_code 214 = .ok (.aload_n 0, 1) := by decide +kernel
theorem d_M_image_218 : decode prog_14_method_90_code 218 = .ok (.iload_n 1, 1) := by decide +kernel
theorem d_M_image_219 : decode prog_14_method_90_code 219 = .ok (.aload_n 0, 1) := by decide +kernel
theorem d_M_image_223 : decode prog_14_method_90_code 223 = .ok (.iload_n 1, 1) := by decide +kernel
theorem d_M_image_226 : decode prog_14_method_90_code 226 = .ok (.iinc 1 1, 3) := by decide +kernel
theorem d_M_image_229 : decode prog_14_method_90_code 229 = .ok (.goto (-33), 3) := by decide +kernel
theorem d_M_image_225 : decode prog_14_method_90_code 225 = .ok (.iastore, 1) := by decide +kernel
theorem d_M_image_220 : decode prog_14_method_90_code 220 = .ok (.getfield 132, 3) := by decide +kernel
theorem d_M_image_215 : decode prog_14_method_90_code 215 = .ok (.getfield 193, 3) := by decide +kernel
theorem d_M_image_213 : decode prog_14_method_90_code 213 = .ok (.iastore, 1) := by decide +kernel
theorem d_M_image_208 : decode prog_14_method_90_code 208 = .ok (.getfield 129, 3) := by decide +kernel
theorem d_M_image_203 : decode prog_14_method_90_code 203 = .ok (.getfield 190, 3) := by decide +kernel
theorem d_M_image_199 : decode prog_14_method_90_code 199 = .ok (.if_icmp .ge 33, 3) := by decide +kernel
theorem d_M_image_212 : decode prog_14_method_90_code 212 = .ok (.iaload, 1) := by decide +kernel
theorem d_M_image_224 : decode prog_14_method_90_code 224 = .ok (.iaload, 1) := by decide +kernel
set_option maxRecDepth 10000 in
set_option maxHeartbeats 4000000 in
theorem W_M_image_196 {q : QT} {z : ZT} {ν : Ml} {k : Mm → Option (Int32 × Mm)} (C : Ctx sdM q z prog_14_method_90_code "BesideTomModel" 2 0 (some (FieldType.int))) (hk : ∀ (me_ : Mm), R sdM q z 2 (φIm ν) (k me_) me_ ν 232 [(0, .ref (q.2.2.1 0))] []) : ∀ (n : Nat) (s33 : Int32) (μ34 : Mm), R sdM q z 2 (φIm ν) (L_M_image_196 k n s33 μ34) μ34 ν 196 [(1, .int s33), (0, .ref (q.2.2.1 0))] [] := by
  intro n
  induction n with
  | zero =>
    intros
    exact R_none
  | succ n ih =>
    intro s33 μ34
    rw [L_M_image_196]
    refine R_iload_n C 0 d_M_image_196 rfl rfl ?_
    refine R_bipush C d_M_image_197 (v := 10) (by decide +kernel) ?_
    refine R_icmp_ge C d_M_image_199 (tgt := 232) (by decide) ?_ ?_
    · skip
      exact R_sub [1] rfl (hk μ34)
    · skip
      refine R_aload_n C 1 d_M_image_202 rfl rfl ?_
      refine gf_M_imageWhat C fl_M_190 d_M_image_203 ?_
      refine R_iload_n C 0 d_M_image_206 rfl rfl ?_
      refine R_aload_n C 1 d_M_image_207 rfl rfl ?_
      refine gf_M_termWhat C fl_M_129 d_M_image_208 ?_
      refine R_iload_n C 0 d_M_image_211 rfl rfl ?_
      refine R_iald C mm_39 (mc_39 q _ _) d_M_image_212 (fun v35 => ?_)
      refine R_iast C mm_59 (fun h => mc_59 q h _) d_M_image_213 (fun μ36 => ?_)
      refine R_aload_n C 1 d_M_image_214 rfl rfl ?_
      refine gf_M_imageNumber C fl_M_193 d_M_image_215 ?_
      refine R_iload_n C 0 d_M_image_218 rfl rfl ?_
      refine R_aload_n C 1 d_M_image_219 rfl rfl ?_
      refine gf_M_termNumber C fl_M_132 d_M_image_220 ?_
      refine R_iload_n C 0 d_M_image_223 rfl rfl ?_
      refine R_iald C mm_40 (mc_40 q _ _) d_M_image_224 (fun v37 => ?_)
      refine R_iast C mm_60 (fun h => mc_60 q h _) d_M_image_225 (fun μ38 => ?_)
      refine R_iinc C 0 d_M_image_226 rfl (iinc_v _ (v := 1) (by decide +kernel)) (lv' := [(1, .int (s33 + 1)), (0, .ref (q.2.2.1 0))]) (by decide) rfl ?_
      refine R_goto C d_M_image_229 (tgt := 196) (by decide) ?_
      exact R_sub [0, 1] rfl (ih (s33 + 1) μ38)
theorem d_M_image_232 : decode prog_14_method_90_code 232 = .ok (.iconst 0, 1) := by decide +kernel
theorem d_M_image_233 : decode prog_14_method_90_code 233 = .ok (.istore_n 1, 1) := by decide +kernel
theorem d_M_image_234 : decode prog_14_method_90_code 234 = .ok (.iload_n 1, 1) := by decide +kernel
theorem d_M_image_235 : decode prog_14_method_90_code 235 = .ok (.bipush 8, 2) := by decide +kernel
theorem d_M_image_240 : decode prog_14_method_90_code 240 = .ok (.aload_n 0, 1) := by decide +kernel
theorem d_M_image_244 : decode prog_14_method_90_code 244 = .ok (.iload_n 1, 1) := by decide +kernel
theorem d_M_image_245 : decode prog_14_method_90_code 245 = .ok (.aload_n 0, 1) := by decide +kernel
theorem d_M_image_249 : decode prog_14_method_90_code 249 = .ok (.iload_n 1, 1) := by decide +kernel
theorem d_M_image_252 : decode prog_14_method_90_code 252 = .ok (.aload_n 0, 1) := by decide +kernel
theorem d_M_image_256 : decode prog_14_method_90_code 256 = .ok (.iload_n 1, 1) := by decide +kernel
theorem d_M_image_257 : decode prog_14_method_90_code 257 = .ok (.aload_n 0, 1) := by decide +kernel
theorem d_M_image_261 : decode prog_14_method_90_code 261 = .ok (.iload_n 1, 1) := by decide +kernel
theorem d_M_image_264 : decode prog_14_method_90_code 264 = .ok (.iinc 1 1, 3) := by decide +kernel
theorem d_M_image_267 : decode prog_14_method_90_code 267 = .ok (.goto (-33), 3) := by decide +kernel
theorem d_M_image_263 : decode prog_14_method_90_code 263 = .ok (.iastore, 1) := by decide +kernel
theorem d_M_image_258 : decode prog_14_method_90_code 258 = .ok (.getfield 138, 3) := by decide +kernel
theorem d_M_image_253 : decode prog_14_method_90_code 253 = .ok (.getfield 199, 3) := by decide +kernel
theorem d_M_image_251 : decode prog_14_method_90_code 251 = .ok (.iastore, 1) := by decide +kernel
theorem d_M_image_246 : decode prog_14_method_90_code 246 = .ok (.getfield 135, 3) := by decide +kernel
theorem d_M_image_241 : decode prog_14_method_90_code 241 = .ok (.getfield 196, 3) := by decide +kernel
theorem d_M_image_237 : decode prog_14_method_90_code 237 = .ok (.if_icmp .ge 33, 3) := by decide +kernel
theorem d_M_image_250 : decode prog_14_method_90_code 250 = .ok (.iaload, 1) := by decide +kernel
theorem d_M_image_262 : decode prog_14_method_90_code 262 = .ok (.iaload, 1) := by decide +kernel
set_option maxRecDepth 10000 in
set_option maxHeartbeats 4000000 in
theorem W_M_image_234 {q : QT} {z : ZT} {ν : Ml} {k : Mm → Option (Int32 × Mm)} (C : Ctx sdM q z prog_14_method_90_code "BesideTomModel" 2 0 (some (FieldType.int))) (hk : ∀ (me_ : Mm), R sdM q z 2 (φIm ν) (k me_) me_ ν 270 [(0, .ref (q.2.2.1 0))] []) : ∀ (n : Nat) (s40 : Int32) (μ41 : Mm), R sdM q z 2 (φIm ν) (L_M_image_234 k n s40 μ41) μ41 ν 234 [(1, .int s40), (0, .ref (q.2.2.1 0))] [] := by
  intro n
  induction n with
  | zero =>
    intros
    exact R_none
  | succ n ih =>
    intro s40 μ41
    rw [L_M_image_234]
    refine R_iload_n C 0 d_M_image_234 rfl rfl ?_
    refine R_bipush C d_M_image_235 (v := 8) (by decide +kernel) ?_
    refine R_icmp_ge C d_M_image_237 (tgt := 270) (by decide) ?_ ?_
    · skip
      exact R_sub [1] rfl (hk μ41)
    · skip
      refine R_aload_n C 1 d_M_image_240 rfl rfl ?_
      refine gf_M_imageBookWho C fl_M_196 d_M_image_241 ?_
      refine R_iload_n C 0 d_M_image_244 rfl rfl ?_
      refine R_aload_n C 1 d_M_image_245 rfl rfl ?_
      refine gf_M_bookWho C fl_M_135 d_M_image_246 ?_
      refine R_iload_n C 0 d_M_image_249 rfl rfl ?_
      refine R_iald C mm_41 (mc_41 q _ _) d_M_image_250 (fun v42 => ?_)
      refine R_iast C mm_61 (fun h => mc_61 q h _) d_M_image_251 (fun μ43 => ?_)
      refine R_aload_n C 1 d_M_image_252 rfl rfl ?_
      refine gf_M_imageBookDesk C fl_M_199 d_M_image_253 ?_
      refine R_iload_n C 0 d_M_image_256 rfl rfl ?_
      refine R_aload_n C 1 d_M_image_257 rfl rfl ?_
      refine gf_M_bookDesk C fl_M_138 d_M_image_258 ?_
      refine R_iload_n C 0 d_M_image_261 rfl rfl ?_
      refine R_iald C mm_42 (mc_42 q _ _) d_M_image_262 (fun v44 => ?_)
      refine R_iast C mm_62 (fun h => mc_62 q h _) d_M_image_263 (fun μ45 => ?_)
      refine R_iinc C 0 d_M_image_264 rfl (iinc_v _ (v := 1) (by decide +kernel)) (lv' := [(1, .int (s40 + 1)), (0, .ref (q.2.2.1 0))]) (by decide) rfl ?_
      refine R_goto C d_M_image_267 (tgt := 234) (by decide) ?_
      exact R_sub [0, 1] rfl (ih (s40 + 1) μ45)
theorem d_M_image_270 : decode prog_14_method_90_code 270 = .ok (.aload_n 0, 1) := by decide +kernel
theorem d_M_image_274 : decode prog_14_method_90_code 274 = .ok (.ireturn, 1) := by decide +kernel
theorem d_M_image_271 : decode prog_14_method_90_code 271 = .ok (.getfield 7, 3) := by decide +kernel
theorem d_M_image_63 : decode prog_14_method_90_code 63 = .ok (.getfield 126, 3) := by decide +kernel
theorem d_M_image_55 : decode prog_14_method_90_code 55 = .ok (.getfield 123, 3) := by decide +kernel
theorem d_M_image_47 : decode prog_14_method_90_code 47 = .ok (.getfield 114, 3) := by decide +kernel
theorem d_M_image_39 : decode prog_14_method_90_code 39 = .ok (.getfield 19, 3) := by decide +kernel
theorem d_M_image_31 : decode prog_14_method_90_code 31 = .ok (.getfield 16, 3) := by decide +kernel
theorem d_M_image_23 : decode prog_14_method_90_code 23 = .ok (.getfield 13, 3) := by decide +kernel
theorem d_M_image_15 : decode prog_14_method_90_code 15 = .ok (.getfield 7, 3) := by decide +kernel
theorem d_M_image_7 : decode prog_14_method_90_code 7 = .ok (.getfield 41, 3) := by decide +kernel
theorem d_M_image_2 : decode prog_14_method_90_code 2 = .ok (.putfield 141, 3) := by decide +kernel
theorem d_M_image_10 : decode prog_14_method_90_code 10 = .ok (.putfield 145, 3) := by decide +kernel
theorem d_M_image_18 : decode prog_14_method_90_code 18 = .ok (.putfield 148, 3) := by decide +kernel
theorem d_M_image_26 : decode prog_14_method_90_code 26 = .ok (.putfield 151, 3) := by decide +kernel
theorem d_M_image_34 : decode prog_14_method_90_code 34 = .ok (.putfield 154, 3) := by decide +kernel
theorem d_M_image_42 : decode prog_14_method_90_code 42 = .ok (.putfield 157, 3) := by decide +kernel
theorem d_M_image_50 : decode prog_14_method_90_code 50 = .ok (.putfield 160, 3) := by decide +kernel
theorem d_M_image_58 : decode prog_14_method_90_code 58 = .ok (.putfield 163, 3) := by decide +kernel
theorem d_M_image_66 : decode prog_14_method_90_code 66 = .ok (.putfield 166, 3) := by decide +kernel
set_option maxRecDepth 10000 in
set_option maxHeartbeats 4000000 in
theorem w_M_image {q : QT} {z : ZT} {μ : Mm} {ν : Ml} (C : Ctx sdM q z prog_14_method_90_code "BesideTomModel" 2 0 (some (FieldType.int))) : R sdM q z 2 (φIm ν) (F_M_image μ) μ ν 0 [(0, .ref (q.2.2.1 0))] [] := by
  unfold F_M_image
  refine R_aload_n C 0 d_M_image_0 rfl rfl ?_
  refine R_iconst C d_M_image_1 (v := 1) (by decide +kernel) ?_
  refine pf_M_hasImage C fl_M_141 rfl rfl d_M_image_2 (fun μ1 => ?_)
  refine R_aload_n C 0 d_M_image_5 rfl rfl ?_
  refine R_aload_n C 0 d_M_image_6 rfl rfl ?_
  refine gf_M_the C fl_M_41 d_M_image_7 ?_
  refine pf_M_imageThe C fl_M_145 d_M_image_10 (fun μ2 => ?_)
  refine R_aload_n C 0 d_M_image_13 rfl rfl ?_
  refine R_aload_n C 0 d_M_image_14 rfl rfl ?_
  refine gf_M_pupils C fl_M_7 d_M_image_15 ?_
  refine pf_M_imagePupils C fl_M_148 d_M_image_18 (fun μ3 => ?_)
  refine R_aload_n C 0 d_M_image_21 rfl rfl ?_
  refine R_aload_n C 0 d_M_image_22 rfl rfl ?_
  refine gf_M_gone C fl_M_13 d_M_image_23 ?_
  refine pf_M_imageGone C fl_M_151 d_M_image_26 (fun μ4 => ?_)
  refine R_aload_n C 0 d_M_image_29 rfl rfl ?_
  refine R_aload_n C 0 d_M_image_30 rfl rfl ?_
  refine gf_M_worn C fl_M_16 d_M_image_31 ?_
  refine pf_M_imageWorn C fl_M_154 d_M_image_34 (fun μ5 => ?_)
  refine R_aload_n C 0 d_M_image_37 rfl rfl ?_
  refine R_aload_n C 0 d_M_image_38 rfl rfl ?_
  refine gf_M_weeks C fl_M_19 d_M_image_39 ?_
  refine pf_M_imageWeeks C fl_M_157 d_M_image_42 (fun μ6 => ?_)
  refine R_aload_n C 0 d_M_image_45 rfl rfl ?_
  refine R_aload_n C 0 d_M_image_46 rfl rfl ?_
  refine gf_M_heard C fl_M_114 d_M_image_47 ?_
  refine pf_M_imageHeard C fl_M_160 d_M_image_50 (fun μ7 => ?_)
  refine R_aload_n C 0 d_M_image_53 rfl rfl ?_
  refine R_aload_n C 0 d_M_image_54 rfl rfl ?_
  refine gf_M_terms C fl_M_123 d_M_image_55 ?_
  refine pf_M_imageTerms C fl_M_163 d_M_image_58 (fun μ8 => ?_)
  refine R_aload_n C 0 d_M_image_61 rfl rfl ?_
  refine R_aload_n C 0 d_M_image_62 rfl rfl ?_
  refine gf_M_books C fl_M_126 d_M_image_63 ?_
  refine pf_M_imageBooks C fl_M_166 d_M_image_66 (fun μ9 => ?_)
  refine R_iconst C d_M_image_69 (v := 0) (by decide +kernel) ?_
  refine R_istore_n C (lv' := [(1, .int 0), (0, .ref (q.2.2.1 0))]) d_M_image_70 rfl (by decide) rfl ?_
  refine R_sub [0, 1] rfl ?_
  refine W_M_image_71 C ?_ fu _ _
  intro μ20
  refine R_iconst C d_M_image_131 (v := 0) (by decide +kernel) ?_
  refine R_istore_n C (lv' := [(1, .int 0), (0, .ref (q.2.2.1 0))]) d_M_image_132 rfl (by decide) rfl ?_
  refine R_sub [0, 1] rfl ?_
  refine W_M_image_133 C ?_ fu _ _
  intro μ25
  refine R_iconst C d_M_image_157 (v := 0) (by decide +kernel) ?_
  refine R_istore_n C (lv' := [(1, .int 0), (0, .ref (q.2.2.1 0))]) d_M_image_158 rfl (by decide) rfl ?_
  refine R_sub [0, 1] rfl ?_
  refine W_M_image_159 C ?_ fu _ _
  intro μ32
  refine R_iconst C d_M_image_194 (v := 0) (by decide +kernel) ?_
  refine R_istore_n C (lv' := [(1, .int 0), (0, .ref (q.2.2.1 0))]) d_M_image_195 rfl (by decide) rfl ?_
  refine R_sub [0, 1] rfl ?_
  refine W_M_image_196 C ?_ fu _ _
  intro μ39
  refine R_iconst C d_M_image_232 (v := 0) (by decide +kernel) ?_
  refine R_istore_n C (lv' := [(1, .int 0), (0, .ref (q.2.2.1 0))]) d_M_image_233 rfl (by decide) rfl ?_
  refine R_sub [0, 1] rfl ?_
  refine W_M_image_234 C ?_ fu _ _
  intro μ46
  refine R_aload_n C 0 d_M_image_270 rfl rfl ?_
  refine gf_M_pupils C fl_M_7 d_M_image_271 ?_
  exact R_iret C rfl d_M_image_274
theorem c_M_image {q : QT} (hg : GOk sdM q) {μ : Mm} {ν : Ml} {o : Int32 × Mm} (ho : F_M_image μ = some o) : Ct sdM q y_M_image prog_14_method_90_code 2 (some (FieldType.int)) 0 [.ref (q.2.2.1 0)] μ ν ((φIm ν) o).1 ((φIm ν) o).2.1 ((φIm ν) o).2.2 := Ct_of rfl hg (fun z C => w_M_image C) (Nat.le_of_ble_eq_true rfl) ho
def F_M_in (a1 : Int32) (a2 : Int32) (a3 : Int32) : Option (Int32) := (if a1 < a2 then some 0 else (if a3 < a1 then some 0 else some 1))
theorem d_M_in_0 : decode prog_14_method_2_code 0 = .ok (.iload_n 1, 1) := by decide +kernel
theorem d_M_in_1 : decode prog_14_method_2_code 1 = .ok (.iload_n 2, 1) := by decide +kernel
theorem d_M_in_14 : decode prog_14_method_2_code 14 = .ok (.iconst 0, 1) := by decide +kernel
theorem d_M_in_15 : decode prog_14_method_2_code 15 = .ok (.ireturn, 1) := by decide +kernel
theorem d_M_in_5 : decode prog_14_method_2_code 5 = .ok (.iload_n 1, 1) := by decide +kernel
theorem d_M_in_6 : decode prog_14_method_2_code 6 = .ok (.iload_n 3, 1) := by decide +kernel
theorem d_M_in_10 : decode prog_14_method_2_code 10 = .ok (.iconst 1, 1) := by decide +kernel
theorem d_M_in_11 : decode prog_14_method_2_code 11 = .ok (.goto 4, 3) := by decide +kernel
theorem d_M_in_7 : decode prog_14_method_2_code 7 = .ok (.if_icmp .gt 7, 3) := by decide +kernel
theorem d_M_in_2 : decode prog_14_method_2_code 2 = .ok (.if_icmp .lt 12, 3) := by decide +kernel
set_option maxRecDepth 10000 in
set_option maxHeartbeats 4000000 in
theorem w_M_in {q : QT} {z : ZT} {a1 : Int32} {a2 : Int32} {a3 : Int32} {μ : Mm} {ν : Ml} (C : Ctx sdM q z prog_14_method_2_code "BesideTomModel" 4 0 (some (FieldType.boolean))) : R sdM q z 4 (φI μ ν) (F_M_in a1 a2 a3) μ ν 0 [(0, .ref (q.2.2.1 0)), (1, .int a1), (2, .int a2), (3, .int a3)] [] := by
  unfold F_M_in
  refine R_iload_n C 1 d_M_in_0 rfl rfl ?_
  refine R_iload_n C 2 d_M_in_1 rfl rfl ?_
  refine R_icmp_lt C d_M_in_2 (tgt := 14) (by decide) ?_ ?_
  · skip
    refine R_iconst C d_M_in_14 (v := 0) (by decide +kernel) ?_
    exact R_zret C (by decide) rfl d_M_in_15
  · skip
    refine R_iload_n C 1 d_M_in_5 rfl rfl ?_
    refine R_iload_n C 3 d_M_in_6 rfl rfl ?_
    refine R_icmp_gt C d_M_in_7 (tgt := 14) (by decide) ?_ ?_
    · skip
      refine R_iconst C d_M_in_14 (v := 0) (by decide +kernel) ?_
      exact R_zret C (by decide) rfl d_M_in_15
    · skip
      refine R_iconst C d_M_in_10 (v := 1) (by decide +kernel) ?_
      refine R_goto C d_M_in_11 (tgt := 15) (by decide) ?_
      exact R_zret C (by decide) rfl d_M_in_15
theorem c_M_in {q : QT} (hg : GOk sdM q) {a1 : Int32} {a2 : Int32} {a3 : Int32} {μ : Mm} {ν : Ml} {o : Int32} (ho : F_M_in a1 a2 a3 = some o) : Ct sdM q y_M_in prog_14_method_2_code 4 (some (FieldType.boolean)) 0 [.ref (q.2.2.1 0), .int a1, .int a2, .int a3] μ ν ((φI μ ν) o).1 ((φI μ ν) o).2.1 ((φI μ ν) o).2.2 := Ct_of rfl hg (fun z C => w_M_in C) (Nat.le_of_ble_eq_true rfl) ho
def F_M_isNext (a1 : Int32) (a2 : Int32) : Option (Int32) := jn (α := Int32) (fun K2 => (if (a1 - a1 / 3 * 3) ≤ (a2 - a2 / 3 * 3) then K2 ((a2 - a2 / 3 * 3) - (a1 - a1 / 3 * 3)) else K2 ((a1 - a1 / 3 * 3) - (a2 - a2 / 3 * 3)))) (fun (j1 : Int32) => (if (a1 / 3) = (a2 / 3) then (if j1 = 1 then some 1 else some 0) else (if j1 = 0 then some 1 else some 0)))
theorem d_M_isNext_0 : decode prog_14_method_45_code 0 = .ok (.iload_n 1, 1) := by decide +kernel
theorem d_M_isNext_1 : decode prog_14_method_45_code 1 = .ok (.iconst 3, 1) := by decide +kernel
theorem d_M_isNext_3 : decode prog_14_method_45_code 3 = .ok (.iload_n 2, 1) := by decide +kernel
theorem d_M_isNext_4 : decode prog_14_method_45_code 4 = .ok (.iconst 3, 1) := by decide +kernel
theorem d_M_isNext_19 : decode prog_14_method_45_code 19 = .ok (.iload_n 2, 1) := by decide +kernel
theorem d_M_isNext_20 : decode prog_14_method_45_code 20 = .ok (.iconst 3, 1) := by decide +kernel
theorem d_M_isNext_22 : decode prog_14_method_45_code 22 = .ok (.iload_n 1, 1) := by decide +kernel
theorem d_M_isNext_23 : decode prog_14_method_45_code 23 = .ok (.iconst 3, 1) := by decide +kernel
theorem d_M_isNext_25 : decode prog_14_method_45_code 25 = .ok (.isub, 1) := by decide +kernel
theorem d_M_isNext_24 : decode prog_14_method_45_code 24 = .ok (.irem, 1) := by decide +kernel
theorem d_M_isNext_21 : decode prog_14_method_45_code 21 = .ok (.irem, 1) := by decide +kernel
theorem d_M_isNext_9 : decode prog_14_method_45_code 9 = .ok (.iload_n 1, 1) := by decide +kernel
theorem d_M_isNext_10 : decode prog_14_method_45_code 10 = .ok (.iconst 3, 1) := by decide +kernel
theorem d_M_isNext_12 : decode prog_14_method_45_code 12 = .ok (.iload_n 2, 1) := by decide +kernel
theorem d_M_isNext_13 : decode prog_14_method_45_code 13 = .ok (.iconst 3, 1) := by decide +kernel
theorem d_M_isNext_15 : decode prog_14_method_45_code 15 = .ok (.isub, 1) := by decide +kernel
theorem d_M_isNext_16 : decode prog_14_method_45_code 16 = .ok (.goto 10, 3) := by decide +kernel
theorem d_M_isNext_14 : decode prog_14_method_45_code 14 = .ok (.irem, 1) := by decide +kernel
theorem d_M_isNext_11 : decode prog_14_method_45_code 11 = .ok (.irem, 1) := by decide +kernel
theorem d_M_isNext_6 : decode prog_14_method_45_code 6 = .ok (.if_icmp .le 13, 3) := by decide +kernel
theorem d_M_isNext_26 : decode prog_14_method_45_code 26 = .ok (.istore_n 3, 1) := by decide +kernel
theorem d_M_isNext_27 : decode prog_14_method_45_code 27 = .ok (.iload_n 1, 1) := by decide +kernel
theorem d_M_isNext_28 : decode prog_14_method_45_code 28 = .ok (.iconst 3, 1) := by decide +kernel
theorem d_M_isNext_30 : decode prog_14_method_45_code 30 = .ok (.iload_n 2, 1) := by decide +kernel
theorem d_M_isNext_31 : decode prog_14_method_45_code 31 = .ok (.iconst 3, 1) := by decide +kernel
theorem d_M_isNext_49 : decode prog_14_method_45_code 49 = .ok (.iload_n 3, 1) := by decide +kernel
theorem d_M_isNext_57 : decode prog_14_method_45_code 57 = .ok (.iconst 0, 1) := by decide +kernel
theorem d_M_isNext_58 : decode prog_14_method_45_code 58 = .ok (.ireturn, 1) := by decide +kernel
theorem d_M_isNext_53 : decode prog_14_method_45_code 53 = .ok (.iconst 1, 1) := by decide +kernel
theorem d_M_isNext_54 : decode prog_14_method_45_code 54 = .ok (.goto 4, 3) := by decide +kernel
theorem d_M_isNext_50 : decode prog_14_method_45_code 50 = .ok (.ifCond .ne 7, 3) := by decide +kernel
theorem d_M_isNext_36 : decode prog_14_method_45_code 36 = .ok (.iload_n 3, 1) := by decide +kernel
theorem d_M_isNext_37 : decode prog_14_method_45_code 37 = .ok (.iconst 1, 1) := by decide +kernel
theorem d_M_isNext_45 : decode prog_14_method_45_code 45 = .ok (.iconst 0, 1) := by decide +kernel
theorem d_M_isNext_46 : decode prog_14_method_45_code 46 = .ok (.goto 12, 3) := by decide +kernel
theorem d_M_isNext_41 : decode prog_14_method_45_code 41 = .ok (.iconst 1, 1) := by decide +kernel
theorem d_M_isNext_42 : decode prog_14_method_45_code 42 = .ok (.goto 16, 3) := by decide +kernel
theorem d_M_isNext_38 : decode prog_14_method_45_code 38 = .ok (.if_icmp .ne 7, 3) := by decide +kernel
theorem d_M_isNext_33 : decode prog_14_method_45_code 33 = .ok (.if_icmp .ne 16, 3) := by decide +kernel
theorem d_M_isNext_32 : decode prog_14_method_45_code 32 = .ok (.idiv, 1) := by decide +kernel
theorem d_M_isNext_29 : decode prog_14_method_45_code 29 = .ok (.idiv, 1) := by decide +kernel
theorem d_M_isNext_5 : decode prog_14_method_45_code 5 = .ok (.irem, 1) := by decide +kernel
theorem d_M_isNext_2 : decode prog_14_method_45_code 2 = .ok (.irem, 1) := by decide +kernel
set_option maxRecDepth 10000 in
set_option maxHeartbeats 4000000 in
theorem w_M_isNext {q : QT} {z : ZT} {a1 : Int32} {a2 : Int32} {μ : Mm} {ν : Ml} (C : Ctx sdM q z prog_14_method_45_code "BesideTomModel" 4 0 (some (FieldType.boolean))) : R sdM q z 4 (φI μ ν) (F_M_isNext a1 a2) μ ν 0 [(0, .ref (q.2.2.1 0)), (1, .int a1), (2, .int a2)] [] := by
  unfold F_M_isNext
  refine R_iload_n C 1 d_M_isNext_0 rfl rfl ?_
  refine R_iconst C d_M_isNext_1 (v := 3) (by decide +kernel) ?_
  refine R_irem C d_M_isNext_2 (by decide) ?_
  refine R_iload_n C 2 d_M_isNext_3 rfl rfl ?_
  refine R_iconst C d_M_isNext_4 (v := 3) (by decide +kernel) ?_
  refine R_irem C d_M_isNext_5 (by decide) ?_
  refine R_jn (fun K2 => ∀ (j1 : Int32), R sdM q z 4 (φI μ ν) (K2 j1) μ ν 26 [(1, .int a1), (2, .int a2)] [.int j1]) ?_ (fun K2 hK2 => ?_)
  · intro j1
    refine R_istore_n C (lv' := [(3, .int j1), (1, .int a1), (2, .int a2)]) d_M_isNext_26 rfl (by decide) rfl ?_
    refine R_iload_n C 1 d_M_isNext_27 rfl rfl ?_
    refine R_iconst C d_M_isNext_28 (v := 3) (by decide +kernel) ?_
    refine R_idiv C d_M_isNext_29 (by decide) ?_
    refine R_iload_n C 2 d_M_isNext_30 rfl rfl ?_
    refine R_iconst C d_M_isNext_31 (v := 3) (by decide +kernel) ?_
    refine R_idiv C d_M_isNext_32 (by decide) ?_
    refine R_icmp_ne C d_M_isNext_33 (tgt := 49) (by decide) ?_ ?_
    · skip
      refine R_iload_n C 0 d_M_isNext_49 rfl rfl ?_
      refine R_if_ne C d_M_isNext_50 (tgt := 57) (by decide) ?_ ?_
      · skip
        refine R_iconst C d_M_isNext_57 (v := 0) (by decide +kernel) ?_
        exact R_zret C (by decide) rfl d_M_isNext_58
      · skip
        refine R_iconst C d_M_isNext_53 (v := 1) (by decide +kernel) ?_
        refine R_goto C d_M_isNext_54 (tgt := 58) (by decide) ?_
        exact R_zret C (by decide) rfl d_M_isNext_58
    · skip
      refine R_iload_n C 0 d_M_isNext_36 rfl rfl ?_
      refine R_iconst C d_M_isNext_37 (v := 1) (by decide +kernel) ?_
      refine R_icmp_ne C d_M_isNext_38 (tgt := 45) (by decide) ?_ ?_
      · skip
        refine R_iconst C d_M_isNext_45 (v := 0) (by decide +kernel) ?_
        refine R_goto C d_M_isNext_46 (tgt := 58) (by decide) ?_
        exact R_zret C (by decide) rfl d_M_isNext_58
      · skip
        refine R_iconst C d_M_isNext_41 (v := 1) (by decide +kernel) ?_
        refine R_goto C d_M_isNext_42 (tgt := 58) (by decide) ?_
        exact R_zret C (by decide) rfl d_M_isNext_58
  · skip
    refine R_icmp_le C d_M_isNext_6 (tgt := 19) (by decide) ?_ ?_
    · skip
      refine R_iload_n C 2 d_M_isNext_19 rfl rfl ?_
      refine R_iconst C d_M_isNext_20 (v := 3) (by decide +kernel) ?_
      refine R_irem C d_M_isNext_21 (by decide) ?_
      refine R_iload_n C 1 d_M_isNext_22 rfl rfl ?_
      refine R_iconst C d_M_isNext_23 (v := 3) (by decide +kernel) ?_
      refine R_irem C d_M_isNext_24 (by decide) ?_
      refine R_isub C d_M_isNext_25 ?_
      exact R_sub [1, 2] rfl (hK2 ((a2 - a2 / 3 * 3) - (a1 - a1 / 3 * 3)))
    · skip
      refine R_iload_n C 1 d_M_isNext_9 rfl rfl ?_
      refine R_iconst C d_M_isNext_10 (v := 3) (by decide +kernel) ?_
      refine R_irem C d_M_isNext_11 (by decide) ?_
      refine R_iload_n C 2 d_M_isNext_12 rfl rfl ?_
      refine R_iconst C d_M_isNext_13 (v := 3) (by decide +kernel) ?_
      refine R_irem C d_M_isNext_14 (by decide) ?_
      refine R_isub C d_M_isNext_15 ?_
      refine R_goto C d_M_isNext_16 (tgt := 26) (by decide) ?_
      exact R_sub [1, 2] rfl (hK2 ((a1 - a1 / 3 * 3) - (a2 - a2 / 3 * 3)))
theorem c_M_isNext {q : QT} (hg : GOk sdM q) {a1 : Int32} {a2 : Int32} {μ : Mm} {ν : Ml} {o : Int32} (ho : F_M_isNext a1 a2 = some o) : Ct sdM q y_M_isNext prog_14_method_45_code 4 (some (FieldType.boolean)) 0 [.ref (q.2.2.1 0), .int a1, .int a2] μ ν ((φI μ ν) o).1 ((φI μ ν) o).2.1 ((φI μ ν) o).2.2 := Ct_of rfl hg (fun z C => w_M_isNext C) (Nat.le_of_ble_eq_true rfl) ho
def F_M_isPair (a1 : Int32) (μ : Mm) : Option (Int32) := (if (a1 - a1 / 6 * 6) ≤ (a1 / 6) then some 0 else (if (μ 0 0) ≤ (a1 - a1 / 6 * 6) then some 0 else some 1))
theorem d_M_isPair_0 : decode prog_14_method_74_code 0 = .ok (.iload_n 1, 1) := by decide +kernel
theorem d_M_isPair_1 : decode prog_14_method_74_code 1 = .ok (.bipush 6, 2) := by decide +kernel
theorem d_M_isPair_4 : decode prog_14_method_74_code 4 = .ok (.iload_n 1, 1) := by decide +kernel
theorem d_M_isPair_5 : decode prog_14_method_74_code 5 = .ok (.bipush 6, 2) := by decide +kernel
theorem d_M_isPair_26 : decode prog_14_method_74_code 26 = .ok (.iconst 0, 1) := by decide +kernel
theorem d_M_isPair_27 : decode prog_14_method_74_code 27 = .ok (.ireturn, 1) := by decide +kernel
theorem d_M_isPair_11 : decode prog_14_method_74_code 11 = .ok (.iload_n 1, 1) := by decide +kernel
theorem d_M_isPair_12 : decode prog_14_method_74_code 12 = .ok (.bipush 6, 2) := by decide +kernel
theorem d_M_isPair_15 : decode prog_14_method_74_code 15 = .ok (.aload_n 0, 1) := by decide +kernel
theorem d_M_isPair_22 : decode prog_14_method_74_code 22 = .ok (.iconst 1, 1) := by decide +kernel
theorem d_M_isPair_23 : decode prog_14_method_74_code 23 = .ok (.goto 4, 3) := by decide +kernel
theorem d_M_isPair_19 : decode prog_14_method_74_code 19 = .ok (.if_icmp .ge 7, 3) := by decide +kernel
theorem d_M_isPair_16 : decode prog_14_method_74_code 16 = .ok (.getfield 7, 3) := by decide +kernel
theorem d_M_isPair_14 : decode prog_14_method_74_code 14 = .ok (.irem, 1) := by decide +kernel
theorem d_M_isPair_8 : decode prog_14_method_74_code 8 = .ok (.if_icmp .ge 18, 3) := by decide +kernel
theorem d_M_isPair_7 : decode prog_14_method_74_code 7 = .ok (.irem, 1) := by decide +kernel
theorem d_M_isPair_3 : decode prog_14_method_74_code 3 = .ok (.idiv, 1) := by decide +kernel
set_option maxRecDepth 10000 in
set_option maxHeartbeats 4000000 in
theorem w_M_isPair {q : QT} {z : ZT} {a1 : Int32} {μ : Mm} {ν : Ml} (C : Ctx sdM q z prog_14_method_74_code "BesideTomModel" 2 0 (some (FieldType.boolean))) : R sdM q z 2 (φI μ ν) (F_M_isPair a1 μ) μ ν 0 [(0, .ref (q.2.2.1 0)), (1, .int a1)] [] := by
  unfold F_M_isPair
  refine R_iload_n C 1 d_M_isPair_0 rfl rfl ?_
  refine R_bipush C d_M_isPair_1 (v := 6) (by decide +kernel) ?_
  refine R_idiv C d_M_isPair_3 (by decide) ?_
  refine R_iload_n C 1 d_M_isPair_4 rfl rfl ?_
  refine R_bipush C d_M_isPair_5 (v := 6) (by decide +kernel) ?_
  refine R_irem C d_M_isPair_7 (by decide) ?_
  refine R_icmp_ge C d_M_isPair_8 (tgt := 26) (by decide) ?_ ?_
  · skip
    refine R_iconst C d_M_isPair_26 (v := 0) (by decide +kernel) ?_
    exact R_zret C (by decide) rfl d_M_isPair_27
  · skip
    refine R_iload_n C 1 d_M_isPair_11 rfl rfl ?_
    refine R_bipush C d_M_isPair_12 (v := 6) (by decide +kernel) ?_
    refine R_irem C d_M_isPair_14 (by decide) ?_
    refine R_aload_n C 0 d_M_isPair_15 rfl rfl ?_
    refine gf_M_pupils C fl_M_7 d_M_isPair_16 ?_
    refine R_icmp_ge C d_M_isPair_19 (tgt := 26) (by decide) ?_ ?_
    · skip
      refine R_iconst C d_M_isPair_26 (v := 0) (by decide +kernel) ?_
      exact R_zret C (by decide) rfl d_M_isPair_27
    · skip
      refine R_iconst C d_M_isPair_22 (v := 1) (by decide +kernel) ?_
      refine R_goto C d_M_isPair_23 (tgt := 27) (by decide) ?_
      exact R_zret C (by decide) rfl d_M_isPair_27
theorem c_M_isPair {q : QT} (hg : GOk sdM q) {a1 : Int32} {μ : Mm} {ν : Ml} {o : Int32} (ho : F_M_isPair a1 μ = some o) : Ct sdM q y_M_isPair prog_14_method_74_code 2 (some (FieldType.boolean)) 0 [.ref (q.2.2.1 0), .int a1] μ ν ((φI μ ν) o).1 ((φI μ ν) o).2.1 ((φI μ ν) o).2.2 := Ct_of rfl hg (fun z C => w_M_isPair C) (Nat.le_of_ble_eq_true rfl) ho
def F_M_least (a1 : Int32) (a2 : Int32) : Option (Int32) := (if a2 ≤ a1 then some a2 else some a1)
theorem d_M_least_0 : decode prog_14_method_4_code 0 = .ok (.iload_n 1, 1) := by decide +kernel
theorem d_M_least_1 : decode prog_14_method_4_code 1 = .ok (.iload_n 2, 1) := by decide +kernel
theorem d_M_least_9 : decode prog_14_method_4_code 9 = .ok (.iload_n 2, 1) := by decide +kernel
theorem d_M_least_10 : decode prog_14_method_4_code 10 = .ok (.ireturn, 1) := by decide +kernel
theorem d_M_least_5 : decode prog_14_method_4_code 5 = .ok (.iload_n 1, 1) := by decide +kernel
theorem d_M_least_6 : decode prog_14_method_4_code 6 = .ok (.goto 4, 3) := by decide +kernel
theorem d_M_least_2 : decode prog_14_method_4_code 2 = .ok (.if_icmp .ge 7, 3) := by decide +kernel
set_option maxRecDepth 10000 in
set_option maxHeartbeats 4000000 in
theorem w_M_least {q : QT} {z : ZT} {a1 : Int32} {a2 : Int32} {μ : Mm} {ν : Ml} (C : Ctx sdM q z prog_14_method_4_code "BesideTomModel" 3 0 (some (FieldType.int))) : R sdM q z 3 (φI μ ν) (F_M_least a1 a2) μ ν 0 [(0, .ref (q.2.2.1 0)), (1, .int a1), (2, .int a2)] [] := by
  unfold F_M_least
  refine R_iload_n C 1 d_M_least_0 rfl rfl ?_
  refine R_iload_n C 2 d_M_least_1 rfl rfl ?_
  refine R_icmp_ge C d_M_least_2 (tgt := 9) (by decide) ?_ ?_
  · skip
    refine R_iload_n C 2 d_M_least_9 rfl rfl ?_
    exact R_iret C rfl d_M_least_10
  · skip
    refine R_iload_n C 1 d_M_least_5 rfl rfl ?_
    refine R_goto C d_M_least_6 (tgt := 10) (by decide) ?_
    exact R_iret C rfl d_M_least_10
theorem c_M_least {q : QT} (hg : GOk sdM q) {a1 : Int32} {a2 : Int32} {μ : Mm} {ν : Ml} {o : Int32} (ho : F_M_least a1 a2 = some o) : Ct sdM q y_M_least prog_14_method_4_code 3 (some (FieldType.int)) 0 [.ref (q.2.2.1 0), .int a1, .int a2] μ ν ((φI μ ν) o).1 ((φI μ ν) o).2.1 ((φI μ ν) o).2.2 := Ct_of rfl hg (fun z C => w_M_least C) (Nat.le_of_ble_eq_true rfl) ho
def F_M_least0 (a1 : Int32) : Option (Int32) := (if 0 ≤ a1 then some a1 else some 0)
theorem d_M_least0_0 : decode prog_14_method_5_code 0 = .ok (.iload_n 1, 1) := by decide +kernel
theorem d_M_least0_8 : decode prog_14_method_5_code 8 = .ok (.iload_n 1, 1) := by decide +kernel
theorem d_M_least0_9 : decode prog_14_method_5_code 9 = .ok (.ireturn, 1) := by decide +kernel
theorem d_M_least0_4 : decode prog_14_method_5_code 4 = .ok (.iconst 0, 1) := by decide +kernel
theorem d_M_least0_5 : decode prog_14_method_5_code 5 = .ok (.goto 4, 3) := by decide +kernel
theorem d_M_least0_1 : decode prog_14_method_5_code 1 = .ok (.ifCond .ge 7, 3) := by decide +kernel
set_option maxRecDepth 10000 in
set_option maxHeartbeats 4000000 in
theorem w_M_least0 {q : QT} {z : ZT} {a1 : Int32} {μ : Mm} {ν : Ml} (C : Ctx sdM q z prog_14_method_5_code "BesideTomModel" 2 0 (some (FieldType.int))) : R sdM q z 2 (φI μ ν) (F_M_least0 a1) μ ν 0 [(0, .ref (q.2.2.1 0)), (1, .int a1)] [] := by
  unfold F_M_least0
  refine R_iload_n C 1 d_M_least0_0 rfl rfl ?_
  refine R_if_ge C d_M_least0_1 (tgt := 8) (by decide) ?_ ?_
  · skip
    refine R_iload_n C 1 d_M_least0_8 rfl rfl ?_
    exact R_iret C rfl d_M_least0_9
  · skip
    refine R_iconst C d_M_least0_4 (v := 0) (by decide +kernel) ?_
    refine R_goto C d_M_least0_5 (tgt := 9) (by decide) ?_
    exact R_iret C rfl d_M_least0_9
theorem c_M_least0 {q : QT} (hg : GOk sdM q) {a1 : Int32} {μ : Mm} {ν : Ml} {o : Int32} (ho : F_M_least0 a1 = some o) : Ct sdM q y_M_least0 prog_14_method_5_code 2 (some (FieldType.int)) 0 [.ref (q.2.2.1 0), .int a1] μ ν ((φI μ ν) o).1 ((φI μ ν) o).2.1 ((φI μ ν) o).2.2 := Ct_of rfl hg (fun z C => w_M_least0 C) (Nat.le_of_ble_eq_true rfl) ho
def L_M_looked_2 (μ : Mm) (k : Unit → Option (Int32)) : Nat → Int32 → Option (Int32)
  | 0, _ => none
  | n + 1, s1 => (if (μ 0 38) ≤ s1 then k () else (rdI (μ 41) 8 s1).bind fun v2 => (rdI (μ 6) 6 v2).bind fun v3 => (rdI (μ 42) 8 s1).bind fun v4 => (if v3 = v4 then L_M_looked_2 μ k n (s1 + 1) else some s1))
def F_M_looked (μ : Mm) : Option (Int32) := L_M_looked_2 μ (fun (_ : Unit) => some (-5)) fu 0
theorem d_M_looked_0 : decode prog_14_method_88_code 0 = .ok (.iconst 0, 1) := by decide +kernel
theorem d_M_looked_1 : decode prog_14_method_88_code 1 = .ok (.istore_n 1, 1) := by decide +kernel
theorem d_M_looked_2 : decode prog_14_method_88_code 2 = .ok (.iload_n 1, 1) := by decide +kernel
theorem d_M_looked_3 : decode prog_14_method_88_code 3 = .ok (.aload_n 0, 1) := by decide +kernel
theorem d_M_looked_10 : decode prog_14_method_88_code 10 = .ok (.aload_n 0, 1) := by decide +kernel
theorem d_M_looked_14 : decode prog_14_method_88_code 14 = .ok (.aload_n 0, 1) := by decide +kernel
theorem d_M_looked_18 : decode prog_14_method_88_code 18 = .ok (.iload_n 1, 1) := by decide +kernel
theorem d_M_looked_21 : decode prog_14_method_88_code 21 = .ok (.aload_n 0, 1) := by decide +kernel
theorem d_M_looked_25 : decode prog_14_method_88_code 25 = .ok (.iload_n 1, 1) := by decide +kernel
theorem d_M_looked_32 : decode prog_14_method_88_code 32 = .ok (.iinc 1 1, 3) := by decide +kernel
theorem d_M_looked_35 : decode prog_14_method_88_code 35 = .ok (.goto (-33), 3) := by decide +kernel
theorem d_M_looked_30 : decode prog_14_method_88_code 30 = .ok (.iload_n 1, 1) := by decide +kernel
theorem d_M_looked_31 : decode prog_14_method_88_code 31 = .ok (.ireturn, 1) := by decide +kernel
theorem d_M_looked_27 : decode prog_14_method_88_code 27 = .ok (.if_icmp .eq 5, 3) := by decide +kernel
theorem d_M_looked_22 : decode prog_14_method_88_code 22 = .ok (.getfield 138, 3) := by decide +kernel
theorem d_M_looked_15 : decode prog_14_method_88_code 15 = .ok (.getfield 135, 3) := by decide +kernel
theorem d_M_looked_11 : decode prog_14_method_88_code 11 = .ok (.getfield 29, 3) := by decide +kernel
theorem d_M_looked_7 : decode prog_14_method_88_code 7 = .ok (.if_icmp .ge 31, 3) := by decide +kernel
theorem d_M_looked_4 : decode prog_14_method_88_code 4 = .ok (.getfield 126, 3) := by decide +kernel
theorem d_M_looked_19 : decode prog_14_method_88_code 19 = .ok (.iaload, 1) := by decide +kernel
theorem d_M_looked_20 : decode prog_14_method_88_code 20 = .ok (.iaload, 1) := by decide +kernel
theorem d_M_looked_26 : decode prog_14_method_88_code 26 = .ok (.iaload, 1) := by decide +kernel
set_option maxRecDepth 10000 in
set_option maxHeartbeats 4000000 in
theorem W_M_looked_2 {q : QT} {z : ZT} {μ : Mm} {ν : Ml} {k : Unit → Option (Int32)} (C : Ctx sdM q z prog_14_method_88_code "BesideTomModel" 2 0 (some (FieldType.int))) (hk : R sdM q z 2 (φI μ ν) (k ()) μ ν 38 [] []) : ∀ (n : Nat) (s1 : Int32), R sdM q z 2 (φI μ ν) (L_M_looked_2 μ k n s1) μ ν 2 [(1, .int s1), (0, .ref (q.2.2.1 0))] [] := by
  intro n
  induction n with
  | zero =>
    intros
    exact R_none
  | succ n ih =>
    intro s1
    rw [L_M_looked_2]
    refine R_iload_n C 0 d_M_looked_2 rfl rfl ?_
    refine R_aload_n C 1 d_M_looked_3 rfl rfl ?_
    refine gf_M_books C fl_M_126 d_M_looked_4 ?_
    refine R_icmp_ge C d_M_looked_7 (tgt := 38) (by decide) ?_ ?_
    · skip
      exact R_sub [] rfl hk
    · skip
      refine R_aload_n C 1 d_M_looked_10 rfl rfl ?_
      refine gf_M_desk C fl_M_29 d_M_looked_11 ?_
      refine R_aload_n C 1 d_M_looked_14 rfl rfl ?_
      refine gf_M_bookWho C fl_M_135 d_M_looked_15 ?_
      refine R_iload_n C 0 d_M_looked_18 rfl rfl ?_
      refine R_iald C mm_41 (mc_41 q _ _) d_M_looked_19 (fun v2 => ?_)
      refine R_iald C mm_6 (mc_6 q _ _) d_M_looked_20 (fun v3 => ?_)
      refine R_aload_n C 1 d_M_looked_21 rfl rfl ?_
      refine gf_M_bookDesk C fl_M_138 d_M_looked_22 ?_
      refine R_iload_n C 0 d_M_looked_25 rfl rfl ?_
      refine R_iald C mm_42 (mc_42 q _ _) d_M_looked_26 (fun v4 => ?_)
      refine R_icmp_eq C d_M_looked_27 (tgt := 32) (by decide) ?_ ?_
      · skip
        refine R_iinc C 0 d_M_looked_32 rfl (iinc_v _ (v := 1) (by decide +kernel)) (lv' := [(1, .int (s1 + 1)), (0, .ref (q.2.2.1 0))]) (by decide) rfl ?_
        refine R_goto C d_M_looked_35 (tgt := 2) (by decide) ?_
        exact R_sub [0, 1] rfl (ih (s1 + 1))
      · skip
        refine R_iload_n C 0 d_M_looked_30 rfl rfl ?_
        exact R_iret C rfl d_M_looked_31
theorem d_M_looked_38 : decode prog_14_method_88_code 38 = .ok (.bipush (-5), 2) := by decide +kernel
theorem d_M_looked_40 : decode prog_14_method_88_code 40 = .ok (.ireturn, 1) := by decide +kernel
set_option maxRecDepth 10000 in
set_option maxHeartbeats 4000000 in
theorem w_M_looked {q : QT} {z : ZT} {μ : Mm} {ν : Ml} (C : Ctx sdM q z prog_14_method_88_code "BesideTomModel" 2 0 (some (FieldType.int))) : R sdM q z 2 (φI μ ν) (F_M_looked μ) μ ν 0 [(0, .ref (q.2.2.1 0))] [] := by
  unfold F_M_looked
  refine R_iconst C d_M_looked_0 (v := 0) (by decide +kernel) ?_
  refine R_istore_n C (lv' := [(1, .int 0), (0, .ref (q.2.2.1 0))]) d_M_looked_1 rfl (by decide) rfl ?_
  refine R_sub [0, 1] rfl ?_
  refine W_M_looked_2 C ?_ fu _
  skip
  refine R_bipush C d_M_looked_38 (v := (-5)) (by decide +kernel) ?_
  exact R_iret C rfl d_M_looked_40
theorem c_M_looked {q : QT} (hg : GOk sdM q) {μ : Mm} {ν : Ml} {o : Int32} (ho : F_M_looked μ = some o) : Ct sdM q y_M_looked prog_14_method_88_code 2 (some (FieldType.int)) 0 [.ref (q.2.2.1 0)] μ ν ((φI μ ν) o).1 ((φI μ ν) o).2.1 ((φI μ ν) o).2.2 := Ct_of rfl hg (fun z C => w_M_looked C) (Nat.le_of_ble_eq_true rfl) ho
def F_M_narrow (a1 : Int32) (a2 : Int64) : Option (Int64) := (if a1 = 0 then some (Int32.toInt64 (Int8.toInt32 (Int32.toInt8 (Int64.toInt32 a2)))) else (if a1 = 1 then some (Int32.toInt64 (Int16.toInt32 (Int32.toInt16 (Int64.toInt32 a2)))) else (if a1 = 2 then some (Int32.toInt64 (Int64.toInt32 a2)) else (if a1 = 4 then (if (lg_cmp a2 0) = 0 then some 0 else some 1) else some a2))))
theorem d_M_narrow_0 : decode prog_14_method_106_code 0 = .ok (.iload_n 1, 1) := by decide +kernel
theorem d_M_narrow_11 : decode prog_14_method_106_code 11 = .ok (.iload_n 1, 1) := by decide +kernel
theorem d_M_narrow_12 : decode prog_14_method_106_code 12 = .ok (.iconst 1, 1) := by decide +kernel
theorem d_M_narrow_23 : decode prog_14_method_106_code 23 = .ok (.iload_n 1, 1) := by decide +kernel
theorem d_M_narrow_24 : decode prog_14_method_106_code 24 = .ok (.iconst 2, 1) := by decide +kernel
theorem d_M_narrow_34 : decode prog_14_method_106_code 34 = .ok (.iload_n 1, 1) := by decide +kernel
theorem d_M_narrow_35 : decode prog_14_method_106_code 35 = .ok (.iconst 4, 1) := by decide +kernel
theorem d_M_narrow_53 : decode prog_14_method_106_code 53 = .ok (.lload_n 2, 1) := by decide +kernel
theorem d_M_narrow_54 : decode prog_14_method_106_code 54 = .ok (.lreturn, 1) := by decide +kernel
theorem d_M_narrow_39 : decode prog_14_method_106_code 39 = .ok (.lload_n 2, 1) := by decide +kernel
theorem d_M_narrow_40 : decode prog_14_method_106_code 40 = .ok (.lconst 0, 1) := by decide +kernel
theorem d_M_narrow_41 : decode prog_14_method_106_code 41 = .ok (.lcmp, 1) := by decide +kernel
theorem d_M_narrow_49 : decode prog_14_method_106_code 49 = .ok (.lconst 0, 1) := by decide +kernel
theorem d_M_narrow_50 : decode prog_14_method_106_code 50 = .ok (.goto 4, 3) := by decide +kernel
theorem d_M_narrow_45 : decode prog_14_method_106_code 45 = .ok (.lconst 1, 1) := by decide +kernel
theorem d_M_narrow_46 : decode prog_14_method_106_code 46 = .ok (.goto 8, 3) := by decide +kernel
theorem d_M_narrow_42 : decode prog_14_method_106_code 42 = .ok (.ifCond .eq 7, 3) := by decide +kernel
theorem d_M_narrow_36 : decode prog_14_method_106_code 36 = .ok (.if_icmp .ne 17, 3) := by decide +kernel
theorem d_M_narrow_28 : decode prog_14_method_106_code 28 = .ok (.lload_n 2, 1) := by decide +kernel
theorem d_M_narrow_29 : decode prog_14_method_106_code 29 = .ok (.l2i, 1) := by decide +kernel
theorem d_M_narrow_30 : decode prog_14_method_106_code 30 = .ok (.i2l, 1) := by decide +kernel
theorem d_M_narrow_31 : decode prog_14_method_106_code 31 = .ok (.goto 23, 3) := by decide +kernel
theorem d_M_narrow_25 : decode prog_14_method_106_code 25 = .ok (.if_icmp .ne 9, 3) := by decide +kernel
theorem d_M_narrow_16 : decode prog_14_method_106_code 16 = .ok (.lload_n 2, 1) := by decide +kernel
theorem d_M_narrow_17 : decode prog_14_method_106_code 17 = .ok (.l2i, 1) := by decide +kernel
theorem d_M_narrow_18 : decode prog_14_method_106_code 18 = .ok (.i2s, 1) := by decide +kernel
theorem d_M_narrow_19 : decode prog_14_method_106_code 19 = .ok (.i2l, 1) := by decide +kernel
theorem d_M_narrow_20 : decode prog_14_method_106_code 20 = .ok (.goto 34, 3) := by decide +kernel
theorem d_M_narrow_13 : decode prog_14_method_106_code 13 = .ok (.if_icmp .ne 10, 3) := by decide +kernel
theorem d_M_narrow_4 : decode prog_14_method_106_code 4 = .ok (.lload_n 2, 1) := by decide +kernel
theorem d_M_narrow_5 : decode prog_14_method_106_code 5 = .ok (.l2i, 1) := by decide +kernel
theorem d_M_narrow_6 : decode prog_14_method_106_code 6 = .ok (.i2b, 1) := by decide +kernel
theorem d_M_narrow_7 : decode prog_14_method_106_code 7 = .ok (.i2l, 1) := by decide +kernel
theorem d_M_narrow_8 : decode prog_14_method_106_code 8 = .ok (.goto 46, 3) := by decide +kernel
theorem d_M_narrow_1 : decode prog_14_method_106_code 1 = .ok (.ifCond .ne 10, 3) := by decide +kernel
set_option maxRecDepth 10000 in
set_option maxHeartbeats 4000000 in
theorem w_M_narrow {q : QT} {z : ZT} {a1 : Int32} {a2 : Int64} {μ : Mm} {ν : Ml} (C : Ctx sdM q z prog_14_method_106_code "BesideTomModel" 4 0 (some (FieldType.long))) : R sdM q z 4 (φL μ ν) (F_M_narrow a1 a2) μ ν 0 [(0, .ref (q.2.2.1 0)), (1, .int a1), (2, .long a2)] [] := by
  unfold F_M_narrow
  refine R_iload_n C 1 d_M_narrow_0 rfl rfl ?_
  refine R_if_ne C d_M_narrow_1 (tgt := 11) (by decide) ?_ ?_
  · skip
    refine R_iload_n C 1 d_M_narrow_11 rfl rfl ?_
    refine R_iconst C d_M_narrow_12 (v := 1) (by decide +kernel) ?_
    refine R_icmp_ne C d_M_narrow_13 (tgt := 23) (by decide) ?_ ?_
    · skip
      refine R_iload_n C 1 d_M_narrow_23 rfl rfl ?_
      refine R_iconst C d_M_narrow_24 (v := 2) (by decide +kernel) ?_
      refine R_icmp_ne C d_M_narrow_25 (tgt := 34) (by decide) ?_ ?_
      · skip
        refine R_iload_n C 1 d_M_narrow_34 rfl rfl ?_
        refine R_iconst C d_M_narrow_35 (v := 4) (by decide +kernel) ?_
        refine R_icmp_ne C d_M_narrow_36 (tgt := 53) (by decide) ?_ ?_
        · skip
          refine R_lload_n C 2 d_M_narrow_53 rfl rfl ?_
          exact R_lret C rfl d_M_narrow_54
        · skip
          refine R_lload_n C 2 d_M_narrow_39 rfl rfl ?_
          refine R_lconst C d_M_narrow_40 (v := 0) (by decide +kernel) ?_
          refine R_lcmp C d_M_narrow_41 ?_
          refine R_if_eq C d_M_narrow_42 (tgt := 49) (by decide) ?_ ?_
          · skip
            refine R_lconst C d_M_narrow_49 (v := 0) (by decide +kernel) ?_
            refine R_goto C d_M_narrow_50 (tgt := 54) (by decide) ?_
            exact R_lret C rfl d_M_narrow_54
          · skip
            refine R_lconst C d_M_narrow_45 (v := 1) (by decide +kernel) ?_
            refine R_goto C d_M_narrow_46 (tgt := 54) (by decide) ?_
            exact R_lret C rfl d_M_narrow_54
      · skip
        refine R_lload_n C 2 d_M_narrow_28 rfl rfl ?_
        refine R_l2i C d_M_narrow_29 ?_
        refine R_i2l C d_M_narrow_30 ?_
        refine R_goto C d_M_narrow_31 (tgt := 54) (by decide) ?_
        exact R_lret C rfl d_M_narrow_54
    · skip
      refine R_lload_n C 2 d_M_narrow_16 rfl rfl ?_
      refine R_l2i C d_M_narrow_17 ?_
      refine R_i2s C d_M_narrow_18 ?_
      refine R_i2l C d_M_narrow_19 ?_
      refine R_goto C d_M_narrow_20 (tgt := 54) (by decide) ?_
      exact R_lret C rfl d_M_narrow_54
  · skip
    refine R_lload_n C 2 d_M_narrow_4 rfl rfl ?_
    refine R_l2i C d_M_narrow_5 ?_
    refine R_i2b C d_M_narrow_6 ?_
    refine R_i2l C d_M_narrow_7 ?_
    refine R_goto C d_M_narrow_8 (tgt := 54) (by decide) ?_
    exact R_lret C rfl d_M_narrow_54
theorem c_M_narrow {q : QT} (hg : GOk sdM q) {a1 : Int32} {a2 : Int64} {μ : Mm} {ν : Ml} {o : Int64} (ho : F_M_narrow a1 a2 = some o) : Ct sdM q y_M_narrow prog_14_method_106_code 4 (some (FieldType.long)) 0 [.ref (q.2.2.1 0), .int a1, .long a2] μ ν ((φL μ ν) o).1 ((φL μ ν) o).2.1 ((φL μ ν) o).2.2 := Ct_of rfl hg (fun z C => w_M_narrow C) (Nat.le_of_ble_eq_true rfl) ho
def F_M_next (μ : Mm) : Option (Int32) := (if (μ 0 11) ≤ (μ 0 12) then some (-1) else (rdI (μ 14) 100 (μ 0 12)).bind fun v1 => some v1)
theorem d_M_next_0 : decode prog_14_method_21_code 0 = .ok (.aload_n 0, 1) := by decide +kernel
theorem d_M_next_4 : decode prog_14_method_21_code 4 = .ok (.aload_n 0, 1) := by decide +kernel
theorem d_M_next_23 : decode prog_14_method_21_code 23 = .ok (.iconst (-1), 1) := by decide +kernel
theorem d_M_next_24 : decode prog_14_method_21_code 24 = .ok (.ireturn, 1) := by decide +kernel
theorem d_M_next_11 : decode prog_14_method_21_code 11 = .ok (.aload_n 0, 1) := by decide +kernel
theorem d_M_next_15 : decode prog_14_method_21_code 15 = .ok (.aload_n 0, 1) := by decide +kernel
theorem d_M_next_20 : decode prog_14_method_21_code 20 = .ok (.goto 4, 3) := by decide +kernel
theorem d_M_next_16 : decode prog_14_method_21_code 16 = .ok (.getfield 47, 3) := by decide +kernel
theorem d_M_next_12 : decode prog_14_method_21_code 12 = .ok (.getfield 53, 3) := by decide +kernel
theorem d_M_next_8 : decode prog_14_method_21_code 8 = .ok (.if_icmp .ge 15, 3) := by decide +kernel
theorem d_M_next_5 : decode prog_14_method_21_code 5 = .ok (.getfield 44, 3) := by decide +kernel
theorem d_M_next_1 : decode prog_14_method_21_code 1 = .ok (.getfield 47, 3) := by decide +kernel
theorem d_M_next_19 : decode prog_14_method_21_code 19 = .ok (.iaload, 1) := by decide +kernel
set_option maxRecDepth 10000 in
set_option maxHeartbeats 4000000 in
theorem w_M_next {q : QT} {z : ZT} {μ : Mm} {ν : Ml} (C : Ctx sdM q z prog_14_method_21_code "BesideTomModel" 1 0 (some (FieldType.int))) : R sdM q z 1 (φI μ ν) (F_M_next μ) μ ν 0 [(0, .ref (q.2.2.1 0))] [] := by
  unfold F_M_next
  refine R_aload_n C 0 d_M_next_0 rfl rfl ?_
  refine gf_M_at C fl_M_47 d_M_next_1 ?_
  refine R_aload_n C 0 d_M_next_4 rfl rfl ?_
  refine gf_M_fed C fl_M_44 d_M_next_5 ?_
  refine R_icmp_ge C d_M_next_8 (tgt := 23) (by decide) ?_ ?_
  · skip
    refine R_iconst C d_M_next_23 (v := (-1)) (by decide +kernel) ?_
    exact R_iret C rfl d_M_next_24
  · skip
    refine R_aload_n C 0 d_M_next_11 rfl rfl ?_
    refine gf_M_text C fl_M_53 d_M_next_12 ?_
    refine R_aload_n C 0 d_M_next_15 rfl rfl ?_
    refine gf_M_at C fl_M_47 d_M_next_16 ?_
    refine R_iald C mm_14 (mc_14 q _ _) d_M_next_19 (fun v1 => ?_)
    refine R_goto C d_M_next_20 (tgt := 24) (by decide) ?_
    exact R_iret C rfl d_M_next_24
theorem c_M_next {q : QT} (hg : GOk sdM q) {μ : Mm} {ν : Ml} {o : Int32} (ho : F_M_next μ = some o) : Ct sdM q y_M_next prog_14_method_21_code 1 (some (FieldType.int)) 0 [.ref (q.2.2.1 0)] μ ν ((φI μ ν) o).1 ((φI μ ν) o).2.1 ((φI μ ν) o).2.2 := Ct_of rfl hg (fun z C => w_M_next C) (Nat.le_of_ble_eq_true rfl) ho
def F_M_place (a1 : Int32) : Option (Int32) := (if a1 = 99 then some 5 else if a1 = 100 then some 1 else if a1 = 101 then some (-1) else if a1 = 102 then some (-1) else if a1 = 103 then some (-1) else if a1 = 104 then some (-1) else if a1 = 105 then some (-1) else if a1 = 106 then some (-1) else if a1 = 107 then some 2 else if a1 = 108 then some (-1) else if a1 = 109 then some (-1) else if a1 = 110 then some (-1) else if a1 = 111 then some (-1) else if a1 = 112 then some 0 else if a1 = 113 then some (-1) else if a1 = 114 then some 4 else if a1 = 115 then some (-1) else if a1 = 116 then some (-1) else if a1 = 117 then some (-1) else if a1 = 118 then some 3 else some (-1))
theorem d_M_place_0 : decode prog_14_method_30_code 0 = .ok (.iload_n 1, 1) := by decide +kernel
theorem d_M_place_1 : decode prog_14_method_30_code 1 = .ok (.tableswitch 107 99 118 #[105, 97, 107, 107, 107, 107, 107, 107, 99, 107, 107, 107, 107, 95, 107, 103, 107, 107, 107, 101], 95) := by decide +kernel
theorem d_M_place_106 : decode prog_14_method_30_code 106 = .ok (.iconst 5, 1) := by decide +kernel
theorem d_M_place_107 : decode prog_14_method_30_code 107 = .ok (.ireturn, 1) := by decide +kernel
theorem d_M_place_98 : decode prog_14_method_30_code 98 = .ok (.iconst 1, 1) := by decide +kernel
theorem d_M_place_99 : decode prog_14_method_30_code 99 = .ok (.ireturn, 1) := by decide +kernel
theorem d_M_place_108 : decode prog_14_method_30_code 108 = .ok (.iconst (-1), 1) := by decide +kernel
theorem d_M_place_109 : decode prog_14_method_30_code 109 = .ok (.ireturn, 1) := by decide +kernel
theorem d_M_place_100 : decode prog_14_method_30_code 100 = .ok (.iconst 2, 1) := by decide +kernel
theorem d_M_place_101 : decode prog_14_method_30_code 101 = .ok (.ireturn, 1) := by decide +kernel
theorem d_M_place_96 : decode prog_14_method_30_code 96 = .ok (.iconst 0, 1) := by decide +kernel
theorem d_M_place_97 : decode prog_14_method_30_code 97 = .ok (.ireturn, 1) := by decide +kernel
theorem d_M_place_104 : decode prog_14_method_30_code 104 = .ok (.iconst 4, 1) := by decide +kernel
theorem d_M_place_105 : decode prog_14_method_30_code 105 = .ok (.ireturn, 1) := by decide +kernel
theorem d_M_place_102 : decode prog_14_method_30_code 102 = .ok (.iconst 3, 1) := by decide +kernel
theorem d_M_place_103 : decode prog_14_method_30_code 103 = .ok (.ireturn, 1) := by decide +kernel
set_option maxRecDepth 10000 in
set_option maxHeartbeats 4000000 in
theorem w_M_place {q : QT} {z : ZT} {a1 : Int32} {μ : Mm} {ν : Ml} (C : Ctx sdM q z prog_14_method_30_code "BesideTomModel" 2 0 (some (FieldType.int))) : R sdM q z 2 (φI μ ν) (F_M_place a1) μ ν 0 [(0, .ref (q.2.2.1 0)), (1, .int a1)] [] := by
  unfold F_M_place
  refine R_iload_n C 1 d_M_place_0 rfl rfl ?_
  refine R_ite (fun e1 => ?_) (fun e1 => ?_)
  · refine R_tsw C e1 d_M_place_1 (tgt := 106) (by decide +kernel) (by decide +kernel) rfl (by decide) ?_
    refine R_iconst C d_M_place_106 (v := 5) (by decide +kernel) ?_
    exact R_iret C rfl d_M_place_107
  refine R_ite (fun e2 => ?_) (fun e2 => ?_)
  · refine R_tsw C e2 d_M_place_1 (tgt := 98) (by decide +kernel) (by decide +kernel) rfl (by decide) ?_
    refine R_iconst C d_M_place_98 (v := 1) (by decide +kernel) ?_
    exact R_iret C rfl d_M_place_99
  refine R_ite (fun e3 => ?_) (fun e3 => ?_)
  · refine R_tsw C e3 d_M_place_1 (tgt := 108) (by decide +kernel) (by decide +kernel) rfl (by decide) ?_
    refine R_iconst C d_M_place_108 (v := (-1)) (by decide +kernel) ?_
    exact R_iret C rfl d_M_place_109
  refine R_ite (fun e4 => ?_) (fun e4 => ?_)
  · refine R_tsw C e4 d_M_place_1 (tgt := 108) (by decide +kernel) (by decide +kernel) rfl (by decide) ?_
    refine R_iconst C d_M_place_108 (v := (-1)) (by decide +kernel) ?_
    exact R_iret C rfl d_M_place_109
  refine R_ite (fun e5 => ?_) (fun e5 => ?_)
  · refine R_tsw C e5 d_M_place_1 (tgt := 108) (by decide +kernel) (by decide +kernel) rfl (by decide) ?_
    refine R_iconst C d_M_place_108 (v := (-1)) (by decide +kernel) ?_
    exact R_iret C rfl d_M_place_109
  refine R_ite (fun e6 => ?_) (fun e6 => ?_)
  · refine R_tsw C e6 d_M_place_1 (tgt := 108) (by decide +kernel) (by decide +kernel) rfl (by decide) ?_
    refine R_iconst C d_M_place_108 (v := (-1)) (by decide +kernel) ?_
    exact R_iret C rfl d_M_place_109
  refine R_ite (fun e7 => ?_) (fun e7 => ?_)
  · refine R_tsw C e7 d_M_place_1 (tgt := 108) (by decide +kernel) (by decide +kernel) rfl (by decide) ?_
    refine R_iconst C d_M_place_108 (v := (-1)) (by decide +kernel) ?_
    exact R_iret C rfl d_M_place_109
  refine R_ite (fun e8 => ?_) (fun e8 => ?_)
  · refine R_tsw C e8 d_M_place_1 (tgt := 108) (by decide +kernel) (by decide +kernel) rfl (by decide) ?_
    refine R_iconst C d_M_place_108 (v := (-1)) (by decide +kernel) ?_
    exact R_iret C rfl d_M_place_109
  refine R_ite (fun e9 => ?_) (fun e9 => ?_)
  · refine R_tsw C e9 d_M_place_1 (tgt := 100) (by decide +kernel) (by decide +kernel) rfl (by decide) ?_
    refine R_iconst C d_M_place_100 (v := 2) (by decide +kernel) ?_
    exact R_iret C rfl d_M_place_101
  refine R_ite (fun e10 => ?_) (fun e10 => ?_)
  · refine R_tsw C e10 d_M_place_1 (tgt := 108) (by decide +kernel) (by decide +kernel) rfl (by decide) ?_
    refine R_iconst C d_M_place_108 (v := (-1)) (by decide +kernel) ?_
    exact R_iret C rfl d_M_place_109
  refine R_ite (fun e11 => ?_) (fun e11 => ?_)
  · refine R_tsw C e11 d_M_place_1 (tgt := 108) (by decide +kernel) (by decide +kernel) rfl (by decide) ?_
    refine R_iconst C d_M_place_108 (v := (-1)) (by decide +kernel) ?_
    exact R_iret C rfl d_M_place_109
  refine R_ite (fun e12 => ?_) (fun e12 => ?_)
  · refine R_tsw C e12 d_M_place_1 (tgt := 108) (by decide +kernel) (by decide +kernel) rfl (by decide) ?_
    refine R_iconst C d_M_place_108 (v := (-1)) (by decide +kernel) ?_
    exact R_iret C rfl d_M_place_109
  refine R_ite (fun e13 => ?_) (fun e13 => ?_)
  · refine R_tsw C e13 d_M_place_1 (tgt := 108) (by decide +kernel) (by decide +kernel) rfl (by decide) ?_
    refine R_iconst C d_M_place_108 (v := (-1)) (by decide +kernel) ?_
    exact R_iret C rfl d_M_place_109
  refine R_ite (fun e14 => ?_) (fun e14 => ?_)
  · refine R_tsw C e14 d_M_place_1 (tgt := 96) (by decide +kernel) (by decide +kernel) rfl (by decide) ?_
    refine R_iconst C d_M_place_96 (v := 0) (by decide +kernel) ?_
    exact R_iret C rfl d_M_place_97
  refine R_ite (fun e15 => ?_) (fun e15 => ?_)
  · refine R_tsw C e15 d_M_place_1 (tgt := 108) (by decide +kernel) (by decide +kernel) rfl (by decide) ?_
    refine R_iconst C d_M_place_108 (v := (-1)) (by decide +kernel) ?_
    exact R_iret C rfl d_M_place_109
  refine R_ite (fun e16 => ?_) (fun e16 => ?_)
  · refine R_tsw C e16 d_M_place_1 (tgt := 104) (by decide +kernel) (by decide +kernel) rfl (by decide) ?_
    refine R_iconst C d_M_place_104 (v := 4) (by decide +kernel) ?_
    exact R_iret C rfl d_M_place_105
  refine R_ite (fun e17 => ?_) (fun e17 => ?_)
  · refine R_tsw C e17 d_M_place_1 (tgt := 108) (by decide +kernel) (by decide +kernel) rfl (by decide) ?_
    refine R_iconst C d_M_place_108 (v := (-1)) (by decide +kernel) ?_
    exact R_iret C rfl d_M_place_109
  refine R_ite (fun e18 => ?_) (fun e18 => ?_)
  · refine R_tsw C e18 d_M_place_1 (tgt := 108) (by decide +kernel) (by decide +kernel) rfl (by decide) ?_
    refine R_iconst C d_M_place_108 (v := (-1)) (by decide +kernel) ?_
    exact R_iret C rfl d_M_place_109
  refine R_ite (fun e19 => ?_) (fun e19 => ?_)
  · refine R_tsw C e19 d_M_place_1 (tgt := 108) (by decide +kernel) (by decide +kernel) rfl (by decide) ?_
    refine R_iconst C d_M_place_108 (v := (-1)) (by decide +kernel) ?_
    exact R_iret C rfl d_M_place_109
  refine R_ite (fun e20 => ?_) (fun e20 => ?_)
  · refine R_tsw C e20 d_M_place_1 (tgt := 102) (by decide +kernel) (by decide +kernel) rfl (by decide) ?_
    refine R_iconst C d_M_place_102 (v := 3) (by decide +kernel) ?_
    exact R_iret C rfl d_M_place_103
  refine R_tswd C d_M_place_1 (tgt := 108) (sw_out (L := [99, 100, 101, 102, 103, 104, 105, 106, 107, 108, 109, 110, 111, 112, 113, 114, 115, 116, 117, 118]) (n := 20) (by decide +kernel) (by decide +kernel) (List.forall_mem_cons.mpr ⟨e1, List.forall_mem_cons.mpr ⟨e2, List.forall_mem_cons.mpr ⟨e3, List.forall_mem_cons.mpr ⟨e4, List.forall_mem_cons.mpr ⟨e5, List.forall_mem_cons.mpr ⟨e6, List.forall_mem_cons.mpr ⟨e7, List.forall_mem_cons.mpr ⟨e8, List.forall_mem_cons.mpr ⟨e9, List.forall_mem_cons.mpr ⟨e10, List.forall_mem_cons.mpr ⟨e11, List.forall_mem_cons.mpr ⟨e12, List.forall_mem_cons.mpr ⟨e13, List.forall_mem_cons.mpr ⟨e14, List.forall_mem_cons.mpr ⟨e15, List.forall_mem_cons.mpr ⟨e16, List.forall_mem_cons.mpr ⟨e17, List.forall_mem_cons.mpr ⟨e18, List.forall_mem_cons.mpr ⟨e19, List.forall_mem_cons.mpr ⟨e20, fun _ h => absurd h List.not_mem_nil⟩⟩⟩⟩⟩⟩⟩⟩⟩⟩⟩⟩⟩⟩⟩⟩⟩⟩⟩⟩)) (by decide) ?_
  refine R_iconst C d_M_place_108 (v := (-1)) (by decide +kernel) ?_
  exact R_iret C rfl d_M_place_109
theorem c_M_place {q : QT} (hg : GOk sdM q) {a1 : Int32} {μ : Mm} {ν : Ml} {o : Int32} (ho : F_M_place a1 = some o) : Ct sdM q y_M_place prog_14_method_30_code 2 (some (FieldType.int)) 0 [.ref (q.2.2.1 0), .int a1] μ ν ((φI μ ν) o).1 ((φI μ ν) o).2.1 ((φI μ ν) o).2.2 := Ct_of rfl hg (fun z C => w_M_place C) (Nat.le_of_ble_eq_true rfl) ho
