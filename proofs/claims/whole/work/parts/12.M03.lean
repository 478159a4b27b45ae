def F_M_isDigit (μ : Mm) : Option (Int32) := (F_M_next μ).bind fun v1 => (F_M_in v1 48 57).bind fun v3 => (rZ v3).bind fun r_ => some r_
theorem d_M_isDigit_0 : decode prog_14_method_25_code 0 = .ok (.aload_n 0, 1) := by decide +kernel
theorem d_M_isDigit_1 : decode prog_14_method_25_code 1 = .ok (.aload_n 0, 1) := by decide +kernel
theorem d_M_isDigit_2 : decode prog_14_method_25_code 2 = .ok (.invokevirtual 255, 3) := by decide +kernel
theorem d_M_isDigit_5 : decode prog_14_method_25_code 5 = .ok (.bipush 48, 2) := by decide +kernel
theorem d_M_isDigit_7 : decode prog_14_method_25_code 7 = .ok (.bipush 57, 2) := by decide +kernel
theorem d_M_isDigit_9 : decode prog_14_method_25_code 9 = .ok (.invokevirtual 225, 3) := by decide +kernel
theorem d_M_isDigit_12 : decode prog_14_method_25_code 12 = .ok (.ireturn, 1) := by decide +kernel
set_option maxRecDepth 10000 in
set_option maxHeartbeats 4000000 in
theorem w_M_isDigit {q : QT} {z : ZT} {μ : Mm} {ν : Ml} (C : Ctx sdM q z prog_14_method_25_code "BesideTomModel" 1 1 (some (FieldType.boolean))) : R sdM q z 1 (φI μ ν) (F_M_isDigit μ) μ ν 0 [(0, .ref (q.2.2.1 0))] [] := by
  unfold F_M_isDigit
  refine R_aload_n C 0 d_M_isDigit_0 rfl rfl ?_
  refine R_aload_n C 0 d_M_isDigit_1 rfl rfl ?_
  refine R_bind (fun v1 h2 => ?_)
  refine R_callV C mm_0 (mc_0 q _ _) rfl cf_M_next rfl ml_M_255 im_M_next sl_M_M_next_M_next (c_M_next (gk C) h2) (by decide) (by decide) rfl rfl (Nat.le_of_ble_eq_true rfl) d_M_isDigit_2 ?_
  refine R_bipush C d_M_isDigit_5 (v := 48) (by decide +kernel) ?_
  refine R_bipush C d_M_isDigit_7 (v := 57) (by decide +kernel) ?_
  refine R_bind (fun v3 h4 => ?_)
  refine R_callV C mm_0 (mc_0 q _ _) rfl cf_M_in rfl ml_M_225 im_M_in sl_M_M_in_M_in (c_M_in (gk C) h4) (by decide) (by decide) rfl rfl (Nat.le_of_ble_eq_true rfl) d_M_isDigit_9 ?_
  exact R_zretG C (fun a => ⟨_, rfl, rfl⟩) d_M_isDigit_12
theorem c_M_isDigit {q : QT} (hg : GOk sdM q) {μ : Mm} {ν : Ml} {o : Int32} (ho : F_M_isDigit μ = some o) : Ct sdM q y_M_isDigit prog_14_method_25_code 1 (some (FieldType.boolean)) 1 [.ref (q.2.2.1 0)] μ ν ((φI μ ν) o).1 ((φI μ ν) o).2.1 ((φI μ ν) o).2.2 := Ct_of rfl hg (fun z C => w_M_isDigit C) (Nat.le_of_ble_eq_true rfl) ho
def F_M_isNoise (a1 : Int32) : Option (Int32) := (F_M_in a1 0 999).bind fun v1 => (rZ v1).bind fun r_ => some r_
theorem d_M_isNoise_0 : decode prog_14_method_10_code 0 = .ok (.aload_n 0, 1) := by decide +kernel
theorem d_M_isNoise_1 : decode prog_14_method_10_code 1 = .ok (.iload_n 1, 1) := by decide +kernel
theorem d_M_isNoise_2 : decode prog_14_method_10_code 2 = .ok (.iconst 0, 1) := by decide +kernel
theorem d_M_isNoise_3 : decode prog_14_method_10_code 3 = .ok (.sipush 999, 3) := by decide +kernel
theorem d_M_isNoise_6 : decode prog_14_method_10_code 6 = .ok (.invokevirtual 225, 3) := by decide +kernel
theorem d_M_isNoise_9 : decode prog_14_method_10_code 9 = .ok (.ireturn, 1) := by decide +kernel
set_option maxRecDepth 10000 in
set_option maxHeartbeats 4000000 in
theorem w_M_isNoise {q : QT} {z : ZT} {a1 : Int32} {μ : Mm} {ν : Ml} (C : Ctx sdM q z prog_14_method_10_code "BesideTomModel" 2 1 (some (FieldType.boolean))) : R sdM q z 2 (φI μ ν) (F_M_isNoise a1) μ ν 0 [(0, .ref (q.2.2.1 0)), (1, .int a1)] [] := by
  unfold F_M_isNoise
  refine R_aload_n C 0 d_M_isNoise_0 rfl rfl ?_
  refine R_iload_n C 1 d_M_isNoise_1 rfl rfl ?_
  refine R_iconst C d_M_isNoise_2 (v := 0) (by decide +kernel) ?_
  refine R_sipush C d_M_isNoise_3 (v := 999) (by decide +kernel) ?_
  refine R_bind (fun v1 h2 => ?_)
  refine R_callV C mm_0 (mc_0 q _ _) rfl cf_M_in rfl ml_M_225 im_M_in sl_M_M_in_M_in (c_M_in (gk C) h2) (by decide) (by decide) rfl rfl (Nat.le_of_ble_eq_true rfl) d_M_isNoise_6 ?_
  exact R_zretG C (fun a => ⟨_, rfl, rfl⟩) d_M_isNoise_9
theorem c_M_isNoise {q : QT} (hg : GOk sdM q) {a1 : Int32} {μ : Mm} {ν : Ml} {o : Int32} (ho : F_M_isNoise a1 = some o) : Ct sdM q y_M_isNoise prog_14_method_10_code 2 (some (FieldType.boolean)) 1 [.ref (q.2.2.1 0), .int a1] μ ν ((φI μ ν) o).1 ((φI μ ν) o).2.1 ((φI μ ν) o).2.2 := Ct_of rfl hg (fun z C => w_M_isNoise C) (Nat.le_of_ble_eq_true rfl) ho
def F_M_isPupil (a1 : Int32) (μ : Mm) : Option (Int32) := (F_M_in a1 0 ((μ 0 0) - 1)).bind fun v1 => (rZ v1).bind fun r_ => some r_
theorem d_M_isPupil_0 : decode prog_14_method_7_code 0 = .ok (.aload_n 0, 1) := by decide +kernel
theorem d_M_isPupil_1 : decode prog_14_method_7_code 1 = .ok (.iload_n 1, 1) := by decide +kernel
theorem d_M_isPupil_2 : decode prog_14_method_7_code 2 = .ok (.iconst 0, 1) := by decide +kernel
theorem d_M_isPupil_3 : decode prog_14_method_7_code 3 = .ok (.aload_n 0, 1) := by decide +kernel
theorem d_M_isPupil_7 : decode prog_14_method_7_code 7 = .ok (.iconst 1, 1) := by decide +kernel
theorem d_M_isPupil_8 : decode prog_14_method_7_code 8 = .ok (.isub, 1) := by decide +kernel
theorem d_M_isPupil_9 : decode prog_14_method_7_code 9 = .ok (.invokevirtual 225, 3) := by decide +kernel
theorem d_M_isPupil_12 : decode prog_14_method_7_code 12 = .ok (.ireturn, 1) := by decide +kernel
theorem d_M_isPupil_4 : decode prog_14_method_7_code 4 = .ok (.getfield 7, 3) := by decide +kernel
set_option maxRecDepth 10000 in
set_option maxHeartbeats 4000000 in
theorem w_M_isPupil {q : QT} {z : ZT} {a1 : Int32} {μ : Mm} {ν : Ml} (C : Ctx sdM q z prog_14_method_7_code "BesideTomModel" 2 1 (some (FieldType.boolean))) : R sdM q z 2 (φI μ ν) (F_M_isPupil a1 μ) μ ν 0 [(0, .ref (q.2.2.1 0)), (1, .int a1)] [] := by
  unfold F_M_isPupil
  refine R_aload_n C 0 d_M_isPupil_0 rfl rfl ?_
  refine R_iload_n C 1 d_M_isPupil_1 rfl rfl ?_
  refine R_iconst C d_M_isPupil_2 (v := 0) (by decide +kernel) ?_
  refine R_aload_n C 0 d_M_isPupil_3 rfl rfl ?_
  refine gf_M_pupils C fl_M_7 d_M_isPupil_4 ?_
  refine R_iconst C d_M_isPupil_7 (v := 1) (by decide +kernel) ?_
  refine R_isub C d_M_isPupil_8 ?_
  refine R_bind (fun v1 h2 => ?_)
  refine R_callV C mm_0 (mc_0 q _ _) rfl cf_M_in rfl ml_M_225 im_M_in sl_M_M_in_M_in (c_M_in (gk C) h2) (by decide) (by decide) rfl rfl (Nat.le_of_ble_eq_true rfl) d_M_isPupil_9 ?_
  exact R_zretG C (fun a => ⟨_, rfl, rfl⟩) d_M_isPupil_12
theorem c_M_isPupil {q : QT} (hg : GOk sdM q) {a1 : Int32} {μ : Mm} {ν : Ml} {o : Int32} (ho : F_M_isPupil a1 μ = some o) : Ct sdM q y_M_isPupil prog_14_method_7_code 2 (some (FieldType.boolean)) 1 [.ref (q.2.2.1 0), .int a1] μ ν ((φI μ ν) o).1 ((φI μ ν) o).2.1 ((φI μ ν) o).2.2 := Ct_of rfl hg (fun z C => w_M_isPupil C) (Nat.le_of_ble_eq_true rfl) ho
def F_M_isTape (a1 : Int32) : Option (Int32) := (F_M_in a1 0 5).bind fun v1 => (rZ v1).bind fun r_ => some r_
theorem d_M_isTape_0 : decode prog_14_method_104_code 0 = .ok (.aload_n 0, 1) := by decide +kernel
theorem d_M_isTape_1 : decode prog_14_method_104_code 1 = .ok (.iload_n 1, 1) := by decide +kernel
theorem d_M_isTape_2 : decode prog_14_method_104_code 2 = .ok (.iconst 0, 1) := by decide +kernel
theorem d_M_isTape_3 : decode prog_14_method_104_code 3 = .ok (.iconst 5, 1) := by decide +kernel
theorem d_M_isTape_4 : decode prog_14_method_104_code 4 = .ok (.invokevirtual 225, 3) := by decide +kernel
theorem d_M_isTape_7 : decode prog_14_method_104_code 7 = .ok (.ireturn, 1) := by decide +kernel
set_option maxRecDepth 10000 in
set_option maxHeartbeats 4000000 in
theorem w_M_isTape {q : QT} {z : ZT} {a1 : Int32} {μ : Mm} {ν : Ml} (C : Ctx sdM q z prog_14_method_104_code "BesideTomModel" 2 1 (some (FieldType.boolean))) : R sdM q z 2 (φI μ ν) (F_M_isTape a1) μ ν 0 [(0, .ref (q.2.2.1 0)), (1, .int a1)] [] := by
  unfold F_M_isTape
  refine R_aload_n C 0 d_M_isTape_0 rfl rfl ?_
  refine R_iload_n C 1 d_M_isTape_1 rfl rfl ?_
  refine R_iconst C d_M_isTape_2 (v := 0) (by decide +kernel) ?_
  refine R_iconst C d_M_isTape_3 (v := 5) (by decide +kernel) ?_
  refine R_bind (fun v1 h2 => ?_)
  refine R_callV C mm_0 (mc_0 q _ _) rfl cf_M_in rfl ml_M_225 im_M_in sl_M_M_in_M_in (c_M_in (gk C) h2) (by decide) (by decide) rfl rfl (Nat.le_of_ble_eq_true rfl) d_M_isTape_4 ?_
  exact R_zretG C (fun a => ⟨_, rfl, rfl⟩) d_M_isTape_7
theorem c_M_isTape {q : QT} (hg : GOk sdM q) {a1 : Int32} {μ : Mm} {ν : Ml} {o : Int32} (ho : F_M_isTape a1 = some o) : Ct sdM q y_M_isTape prog_14_method_104_code 2 (some (FieldType.boolean)) 1 [.ref (q.2.2.1 0), .int a1] μ ν ((φI μ ν) o).1 ((φI μ ν) o).2.1 ((φI μ ν) o).2.2 := Ct_of rfl hg (fun z C => w_M_isTape C) (Nat.le_of_ble_eq_true rfl) ho
def F_M_isWeeks (a1 : Int32) : Option (Int32) := (F_M_in a1 0 60).bind fun v1 => (rZ v1).bind fun r_ => some r_
theorem d_M_isWeeks_0 : decode prog_14_method_9_code 0 = .ok (.aload_n 0, 1) := by decide +kernel
theorem d_M_isWeeks_1 : decode prog_14_method_9_code 1 = .ok (.iload_n 1, 1) := by decide +kernel
theorem d_M_isWeeks_2 : decode prog_14_method_9_code 2 = .ok (.iconst 0, 1) := by decide +kernel
theorem d_M_isWeeks_3 : decode prog_14_method_9_code 3 = .ok (.bipush 60, 2) := by decide +kernel
theorem d_M_isWeeks_5 : decode prog_14_method_9_code 5 = .ok (.invokevirtual 225, 3) := by decide +kernel
theorem d_M_isWeeks_8 : decode prog_14_method_9_code 8 = .ok (.ireturn, 1) := by decide +kernel
set_option maxRecDepth 10000 in
set_option maxHeartbeats 4000000 in
theorem w_M_isWeeks {q : QT} {z : ZT} {a1 : Int32} {μ : Mm} {ν : Ml} (C : Ctx sdM q z prog_14_method_9_code "BesideTomModel" 2 1 (some (FieldType.boolean))) : R sdM q z 2 (φI μ ν) (F_M_isWeeks a1) μ ν 0 [(0, .ref (q.2.2.1 0)), (1, .int a1)] [] := by
  unfold F_M_isWeeks
  refine R_aload_n C 0 d_M_isWeeks_0 rfl rfl ?_
  refine R_iload_n C 1 d_M_isWeeks_1 rfl rfl ?_
  refine R_iconst C d_M_isWeeks_2 (v := 0) (by decide +kernel) ?_
  refine R_bipush C d_M_isWeeks_3 (v := 60) (by decide +kernel) ?_
  refine R_bind (fun v1 h2 => ?_)
  refine R_callV C mm_0 (mc_0 q _ _) rfl cf_M_in rfl ml_M_225 im_M_in sl_M_M_in_M_in (c_M_in (gk C) h2) (by decide) (by decide) rfl rfl (Nat.le_of_ble_eq_true rfl) d_M_isWeeks_5 ?_
  exact R_zretG C (fun a => ⟨_, rfl, rfl⟩) d_M_isWeeks_8
theorem c_M_isWeeks {q : QT} (hg : GOk sdM q) {a1 : Int32} {μ : Mm} {ν : Ml} {o : Int32} (ho : F_M_isWeeks a1 = some o) : Ct sdM q y_M_isWeeks prog_14_method_9_code 2 (some (FieldType.boolean)) 1 [.ref (q.2.2.1 0), .int a1] μ ν ((φI μ ν) o).1 ((φI μ ν) o).2.1 ((φI μ ν) o).2.2 := Ct_of rfl hg (fun z C => w_M_isWeeks C) (Nat.le_of_ble_eq_true rfl) ho
def L_M_lastOf_8 (f5 : Int32) (μ : Mm) (k : Int32 → Option (Int32)) : Nat → Int32 → Int32 → Option (Int32)
  | 0, _, _ => none
  | n + 1, s3, s4 => (F_M_behind μ).bind fun v6 => (if v6 ≤ s4 then k s3 else (rdI (μ 16) 60 s4).bind fun v8 => jn (α := Int32) (fun K11 => (if v8 = f5 then (rdI (μ 17) 60 s4).bind fun v9 => K11 v9 else K11 s3)) (fun (j10 : Int32) => L_M_lastOf_8 f5 μ k n j10 (s4 + 1)))
def F_M_lastOf (a1 : Int32) (a2 : Int32) (μ : Mm) : Option (Int32) := (F_M_begin μ).bind fun v1 => L_M_lastOf_8 a1 μ (fun (x12 : Int32) => (if 1 ≤ x12 then some x12 else some 1)) fu a2 v1
theorem d_M_lastOf_0 : decode prog_14_method_39_code 0 = .ok (.iload_n 2, 1) := by decide +kernel
theorem d_M_lastOf_1 : decode prog_14_method_39_code 1 = .ok (.istore_n 3, 1) := by decide +kernel
theorem d_M_lastOf_2 : decode prog_14_method_39_code 2 = .ok (.aload_n 0, 1) := by decide +kernel
theorem d_M_lastOf_3 : decode prog_14_method_39_code 3 = .ok (.invokevirtual 302, 3) := by decide +kernel
theorem d_M_lastOf_6 : decode prog_14_method_39_code 6 = .ok (.istore 4, 2) := by decide +kernel
theorem d_M_lastOf_8 : decode prog_14_method_39_code 8 = .ok (.iload 4, 2) := by decide +kernel
theorem d_M_lastOf_10 : decode prog_14_method_39_code 10 = .ok (.aload_n 0, 1) := by decide +kernel
theorem d_M_lastOf_11 : decode prog_14_method_39_code 11 = .ok (.invokevirtual 305, 3) := by decide +kernel
theorem d_M_lastOf_17 : decode prog_14_method_39_code 17 = .ok (.aload_n 0, 1) := by decide +kernel
theorem d_M_lastOf_21 : decode prog_14_method_39_code 21 = .ok (.iload 4, 2) := by decide +kernel
theorem d_M_lastOf_24 : decode prog_14_method_39_code 24 = .ok (.iload_n 1, 1) := by decide +kernel
theorem d_M_lastOf_38 : decode prog_14_method_39_code 38 = .ok (.iload_n 3, 1) := by decide +kernel
theorem d_M_lastOf_28 : decode prog_14_method_39_code 28 = .ok (.aload_n 0, 1) := by decide +kernel
theorem d_M_lastOf_32 : decode prog_14_method_39_code 32 = .ok (.iload 4, 2) := by decide +kernel
theorem d_M_lastOf_35 : decode prog_14_method_39_code 35 = .ok (.goto 4, 3) := by decide +kernel
theorem d_M_lastOf_29 : decode prog_14_method_39_code 29 = .ok (.getfield 62, 3) := by decide +kernel
theorem d_M_lastOf_25 : decode prog_14_method_39_code 25 = .ok (.if_icmp .ne 13, 3) := by decide +kernel
theorem d_M_lastOf_39 : decode prog_14_method_39_code 39 = .ok (.istore_n 3, 1) := by decide +kernel
theorem d_M_lastOf_40 : decode prog_14_method_39_code 40 = .ok (.iinc 4 1, 3) := by decide +kernel
theorem d_M_lastOf_43 : decode prog_14_method_39_code 43 = .ok (.goto (-35), 3) := by decide +kernel
theorem d_M_lastOf_18 : decode prog_14_method_39_code 18 = .ok (.getfield 59, 3) := by decide +kernel
theorem d_M_lastOf_14 : decode prog_14_method_39_code 14 = .ok (.if_icmp .ge 32, 3) := by decide +kernel
theorem d_M_lastOf_23 : decode prog_14_method_39_code 23 = .ok (.iaload, 1) := by decide +kernel
theorem d_M_lastOf_34 : decode prog_14_method_39_code 34 = .ok (.iaload, 1) := by decide +kernel
set_option maxRecDepth 10000 in
set_option maxHeartbeats 4000000 in
theorem W_M_lastOf_8 {q : QT} {z : ZT} {μ : Mm} {ν : Ml} {f5 : Int32} {k : Int32 → Option (Int32)} (C : Ctx sdM q z prog_14_method_39_code "BesideTomModel" 5 1 (some (FieldType.int))) (hk : ∀ (e0_ : Int32), R sdM q z 5 (φI μ ν) (k e0_) μ ν 46 [(3, .int e0_)] []) : ∀ (n : Nat) (s3 : Int32) (s4 : Int32), R sdM q z 5 (φI μ ν) (L_M_lastOf_8 f5 μ k n s3 s4) μ ν 8 [(3, .int s3), (4, .int s4), (0, .ref (q.2.2.1 0)), (1, .int f5)] [] := by
  intro n
  induction n with
  | zero =>
    intros
    exact R_none
  | succ n ih =>
    intro s3 s4
    rw [L_M_lastOf_8]
    refine R_iload C 1 d_M_lastOf_8 rfl ?_
    refine R_aload_n C 2 d_M_lastOf_10 rfl rfl ?_
    refine R_bind (fun v6 h7 => ?_)
    refine R_callV C mm_0 (mc_0 q _ _) rfl cf_M_behind rfl ml_M_305 im_M_behind sl_M_M_behind_M_behind (c_M_behind (gk C) h7) (by decide) (by decide) rfl rfl (Nat.le_of_ble_eq_true rfl) d_M_lastOf_11 ?_
    refine R_icmp_ge C d_M_lastOf_14 (tgt := 46) (by decide) ?_ ?_
    · skip
      exact R_sub [0] rfl (hk s3)
    · skip
      refine R_aload_n C 2 d_M_lastOf_17 rfl rfl ?_
      refine gf_M_word C fl_M_59 d_M_lastOf_18 ?_
      refine R_iload C 1 d_M_lastOf_21 rfl ?_
      refine R_iald C mm_16 (mc_16 q _ _) d_M_lastOf_23 (fun v8 => ?_)
      refine R_iload_n C 3 d_M_lastOf_24 rfl rfl ?_
      refine R_jn (fun K11 => ∀ (j10 : Int32), R sdM q z 5 (φI μ ν) (K11 j10) μ ν 39 [(0, .ref (q.2.2.1 0)), (1, .int f5), (4, .int s4)] [.int j10]) ?_ (fun K11 hK11 => ?_)
      · intro j10
        refine R_istore_n C (lv' := [(3, .int j10), (0, .ref (q.2.2.1 0)), (1, .int f5), (4, .int s4)]) d_M_lastOf_39 rfl (by decide) rfl ?_
        refine R_iinc C 3 d_M_lastOf_40 rfl (iinc_v _ (v := 1) (by decide +kernel)) (lv' := [(4, .int (s4 + 1)), (3, .int j10), (0, .ref (q.2.2.1 0)), (1, .int f5)]) (by decide) rfl ?_
        refine R_goto C d_M_lastOf_43 (tgt := 8) (by decide) ?_
        exact R_sub [1, 0, 2, 3] rfl (ih j10 (s4 + 1))
      · skip
        refine R_icmp_ne C d_M_lastOf_25 (tgt := 38) (by decide) ?_ ?_
        · skip
          refine R_iload_n C 0 d_M_lastOf_38 rfl rfl ?_
          exact R_sub [2, 3, 1] rfl (hK11 s3)
        · skip
          refine R_aload_n C 2 d_M_lastOf_28 rfl rfl ?_
          refine gf_M_number C fl_M_62 d_M_lastOf_29 ?_
          refine R_iload C 1 d_M_lastOf_32 rfl ?_
          refine R_iald C mm_17 (mc_17 q _ _) d_M_lastOf_34 (fun v9 => ?_)
          refine R_goto C d_M_lastOf_35 (tgt := 39) (by decide) ?_
          exact R_sub [2, 3, 1] rfl (hK11 v9)
theorem d_M_lastOf_46 : decode prog_14_method_39_code 46 = .ok (.iload_n 3, 1) := by decide +kernel
theorem d_M_lastOf_47 : decode prog_14_method_39_code 47 = .ok (.iconst 1, 1) := by decide +kernel
theorem d_M_lastOf_55 : decode prog_14_method_39_code 55 = .ok (.iload_n 3, 1) := by decide +kernel
theorem d_M_lastOf_56 : decode prog_14_method_39_code 56 = .ok (.ireturn, 1) := by decide +kernel
theorem d_M_lastOf_51 : decode prog_14_method_39_code 51 = .ok (.iconst 1, 1) := by decide +kernel
theorem d_M_lastOf_52 : decode prog_14_method_39_code 52 = .ok (.goto 4, 3) := by decide +kernel
theorem d_M_lastOf_48 : decode prog_14_method_39_code 48 = .ok (.if_icmp .ge 7, 3) := by decide +kernel
set_option maxRecDepth 10000 in
set_option maxHeartbeats 4000000 in
theorem w_M_lastOf {q : QT} {z : ZT} {a1 : Int32} {a2 : Int32} {μ : Mm} {ν : Ml} (C : Ctx sdM q z prog_14_method_39_code "BesideTomModel" 5 1 (some (FieldType.int))) : R sdM q z 5 (φI μ ν) (F_M_lastOf a1 a2 μ) μ ν 0 [(0, .ref (q.2.2.1 0)), (1, .int a1), (2, .int a2)] [] := by
  unfold F_M_lastOf
  refine R_iload_n C 2 d_M_lastOf_0 rfl rfl ?_
  refine R_istore_n C (lv' := [(3, .int a2), (0, .ref (q.2.2.1 0)), (1, .int a1), (2, .int a2)]) d_M_lastOf_1 rfl (by decide) rfl ?_
  refine R_aload_n C 1 d_M_lastOf_2 rfl rfl ?_
  refine R_bind (fun v1 h2 => ?_)
  refine R_callV C mm_0 (mc_0 q _ _) rfl cf_M_begin rfl ml_M_302 im_M_begin sl_M_M_begin_M_begin (c_M_begin (gk C) h2) (by decide) (by decide) rfl rfl (Nat.le_of_ble_eq_true rfl) d_M_lastOf_3 ?_
  refine R_istore C (lv' := [(4, .int v1), (3, .int a2), (0, .ref (q.2.2.1 0)), (1, .int a1), (2, .int a2)]) d_M_lastOf_6 (by decide) rfl ?_
  refine R_sub [1, 0, 2, 3] rfl ?_
  refine W_M_lastOf_8 C ?_ fu _ _
  intro x12
  refine R_iload_n C 0 d_M_lastOf_46 rfl rfl ?_
  refine R_iconst C d_M_lastOf_47 (v := 1) (by decide +kernel) ?_
  refine R_icmp_ge C d_M_lastOf_48 (tgt := 55) (by decide) ?_ ?_
  · skip
    refine R_iload_n C 0 d_M_lastOf_55 rfl rfl ?_
    exact R_iret C rfl d_M_lastOf_56
  · skip
    refine R_iconst C d_M_lastOf_51 (v := 1) (by decide +kernel) ?_
    refine R_goto C d_M_lastOf_52 (tgt := 56) (by decide) ?_
    exact R_iret C rfl d_M_lastOf_56
theorem c_M_lastOf {q : QT} (hg : GOk sdM q) {a1 : Int32} {a2 : Int32} {μ : Mm} {ν : Ml} {o : Int32} (ho : F_M_lastOf a1 a2 μ = some o) : Ct sdM q y_M_lastOf prog_14_method_39_code 5 (some (FieldType.int)) 1 [.ref (q.2.2.1 0), .int a1, .int a2] μ ν ((φI μ ν) o).1 ((φI μ ν) o).2.1 ((φI μ ν) o).2.2 := Ct_of rfl hg (fun z C => w_M_lastOf C) (Nat.le_of_ble_eq_true rfl) ho
def L_M_layPlan_12 (k : Mm → Option (Int32 × Mm)) : Nat → Int32 → Int32 → Int32 → Mm → Option (Int32 × Mm)
  | 0, _, _, _, _ => none
  | n + 1, s1, s2, s3, μ4 => (if s3 < 0 then k μ4 else (wrI μ4 6 6 s3 (s1 - s1 / 6 * 6)).bind fun μ5 => (rdI (μ5 6) 6 s3).bind fun v6 => (F_M_has s2 v6).bind fun v7 => (if v7 = 0 then (rdI (μ5 6) 6 s3).bind fun v9 => lt_ (s2 ||| (1 <<< (v9 &&& 31))) fun x10 => L_M_layPlan_12 k n (s1 / 6) x10 (s3 + (-1)) μ5 else some (0, μ5)))
def F_M_layPlan (a1 : Int32) (μ : Mm) : Option (Int32 × Mm) := L_M_layPlan_12 (fun (μ11 : Mm) => some (1, μ11)) fu a1 0 ((μ 0 0) - 1) μ
theorem d_M_layPlan_0 : decode prog_14_method_63_code 0 = .ok (.iload_n 1, 1) := by decide +kernel
theorem d_M_layPlan_1 : decode prog_14_method_63_code 1 = .ok (.istore_n 2, 1) := by decide +kernel
theorem d_M_layPlan_2 : decode prog_14_method_63_code 2 = .ok (.iconst 0, 1) := by decide +kernel
theorem d_M_layPlan_3 : decode prog_14_method_63_code 3 = .ok (.istore_n 3, 1) := by decide +kernel
theorem d_M_layPlan_4 : decode prog_14_method_63_code 4 = .ok (.aload_n 0, 1) := by decide +kernel
theorem d_M_layPlan_8 : decode prog_14_method_63_code 8 = .ok (.iconst 1, 1) := by decide +kernel
theorem d_M_layPlan_9 : decode prog_14_method_63_code 9 = .ok (.isub, 1) := by decide +kernel
theorem d_M_layPlan_10 : decode prog_14_method_63_code 10 = .ok (.istore 4, 2) := by decide +kernel
theorem d_M_layPlan_12 : decode prog_14_method_63_code 12 = .ok (.iload 4, 2) := by decide +kernel
theorem d_M_layPlan_17 : decode prog_14_method_63_code 17 = .ok (.aload_n 0, 1) := by decide +kernel
theorem d_M_layPlan_21 : decode prog_14_method_63_code 21 = .ok (.iload 4, 2) := by decide +kernel
theorem d_M_layPlan_23 : decode prog_14_method_63_code 23 = .ok (.iload_n 2, 1) := by decide +kernel
theorem d_M_layPlan_24 : decode prog_14_method_63_code 24 = .ok (.bipush 6, 2) := by decide +kernel
theorem d_M_layPlan_28 : decode prog_14_method_63_code 28 = .ok (.iload_n 2, 1) := by decide +kernel
theorem d_M_layPlan_29 : decode prog_14_method_63_code 29 = .ok (.bipush 6, 2) := by decide +kernel
theorem d_M_layPlan_32 : decode prog_14_method_63_code 32 = .ok (.istore_n 2, 1) := by decide +kernel
theorem d_M_layPlan_33 : decode prog_14_method_63_code 33 = .ok (.aload_n 0, 1) := by decide +kernel
theorem d_M_layPlan_34 : decode prog_14_method_63_code 34 = .ok (.iload_n 3, 1) := by decide +kernel
theorem d_M_layPlan_35 : decode prog_14_method_63_code 35 = .ok (.aload_n 0, 1) := by decide +kernel
theorem d_M_layPlan_39 : decode prog_14_method_63_code 39 = .ok (.iload 4, 2) := by decide +kernel
theorem d_M_layPlan_42 : decode prog_14_method_63_code 42 = .ok (.invokevirtual 221, 3) := by decide +kernel
theorem d_M_layPlan_50 : decode prog_14_method_63_code 50 = .ok (.iload_n 3, 1) := by decide +kernel
theorem d_M_layPlan_51 : decode prog_14_method_63_code 51 = .ok (.iconst 1, 1) := by decide +kernel
theorem d_M_layPlan_52 : decode prog_14_method_63_code 52 = .ok (.aload_n 0, 1) := by decide +kernel
theorem d_M_layPlan_56 : decode prog_14_method_63_code 56 = .ok (.iload 4, 2) := by decide +kernel
theorem d_M_layPlan_59 : decode prog_14_method_63_code 59 = .ok (.ishl, 1) := by decide +kernel
theorem d_M_layPlan_60 : decode prog_14_method_63_code 60 = .ok (.ior, 1) := by decide +kernel
theorem d_M_layPlan_62 : decode prog_14_method_63_code 62 = .ok (.iinc 4 (-1), 3) := by decide +kernel
theorem d_M_layPlan_65 : decode prog_14_method_63_code 65 = .ok (.goto (-53), 3) := by decide +kernel
theorem d_M_layPlan_61 : decode prog_14_method_63_code 61 = .ok (.istore_n 3, 1) := by decide +kernel
theorem d_M_layPlan_53 : decode prog_14_method_63_code 53 = .ok (.getfield 29, 3) := by decide +kernel
theorem d_M_layPlan_48 : decode prog_14_method_63_code 48 = .ok (.iconst 0, 1) := by decide +kernel
theorem d_M_layPlan_49 : decode prog_14_method_63_code 49 = .ok (.ireturn, 1) := by decide +kernel
theorem d_M_layPlan_45 : decode prog_14_method_63_code 45 = .ok (.ifCond .eq 5, 3) := by decide +kernel
theorem d_M_layPlan_36 : decode prog_14_method_63_code 36 = .ok (.getfield 29, 3) := by decide +kernel
theorem d_M_layPlan_31 : decode prog_14_method_63_code 31 = .ok (.idiv, 1) := by decide +kernel
theorem d_M_layPlan_27 : decode prog_14_method_63_code 27 = .ok (.iastore, 1) := by decide +kernel
theorem d_M_layPlan_26 : decode prog_14_method_63_code 26 = .ok (.irem, 1) := by decide +kernel
theorem d_M_layPlan_18 : decode prog_14_method_63_code 18 = .ok (.getfield 29, 3) := by decide +kernel
theorem d_M_layPlan_14 : decode prog_14_method_63_code 14 = .ok (.ifCond .lt 54, 3) := by decide +kernel
theorem d_M_layPlan_41 : decode prog_14_method_63_code 41 = .ok (.iaload, 1) := by decide +kernel
theorem d_M_layPlan_58 : decode prog_14_method_63_code 58 = .ok (.iaload, 1) := by decide +kernel
set_option maxRecDepth 10000 in
set_option maxHeartbeats 4000000 in
theorem W_M_layPlan_12 {q : QT} {z : ZT} {ν : Ml} {k : Mm → Option (Int32 × Mm)} (C : Ctx sdM q z prog_14_method_63_code "BesideTomModel" 5 1 (some (FieldType.boolean))) (hk : ∀ (me_ : Mm), R sdM q z 5 (φIm ν) (k me_) me_ ν 68 [] []) : ∀ (n : Nat) (s1 : Int32) (s2 : Int32) (s3 : Int32) (μ4 : Mm), R sdM q z 5 (φIm ν) (L_M_layPlan_12 k n s1 s2 s3 μ4) μ4 ν 12 [(2, .int s1), (3, .int s2), (4, .int s3), (0, .ref (q.2.2.1 0))] [] := by
  intro n
  induction n with
  | zero =>
    intros
    exact R_none
  | succ n ih =>
    intro s1 s2 s3 μ4
    rw [L_M_layPlan_12]
    refine R_iload C 2 d_M_layPlan_12 rfl ?_
    refine R_if_lt C d_M_layPlan_14 (tgt := 68) (by decide) ?_ ?_
    · skip
      exact R_sub [] rfl (hk μ4)
    · skip
      refine R_aload_n C 3 d_M_layPlan_17 rfl rfl ?_
      refine gf_M_desk C fl_M_29 d_M_layPlan_18 ?_
      refine R_iload C 2 d_M_layPlan_21 rfl ?_
      refine R_iload_n C 0 d_M_layPlan_23 rfl rfl ?_
      refine R_bipush C d_M_layPlan_24 (v := 6) (by decide +kernel) ?_
      refine R_irem C d_M_layPlan_26 (by decide) ?_
      refine R_iast C mm_6 (fun h => mc_6 q h _) d_M_layPlan_27 (fun μ5 => ?_)
      refine R_iload_n C 0 d_M_layPlan_28 rfl rfl ?_
      refine R_bipush C d_M_layPlan_29 (v := 6) (by decide +kernel) ?_
      refine R_idiv C d_M_layPlan_31 (by decide) ?_
      refine R_istore_n C (lv' := [(2, .int (s1 / 6)), (3, .int s2), (4, .int s3), (0, .ref (q.2.2.1 0))]) d_M_layPlan_32 rfl (by decide) rfl ?_
      refine R_aload_n C 3 d_M_layPlan_33 rfl rfl ?_
      refine R_iload_n C 1 d_M_layPlan_34 rfl rfl ?_
      refine R_aload_n C 3 d_M_layPlan_35 rfl rfl ?_
      refine gf_M_desk C fl_M_29 d_M_layPlan_36 ?_
      refine R_iload C 2 d_M_layPlan_39 rfl ?_
      refine R_iald C mm_6 (mc_6 q _ _) d_M_layPlan_41 (fun v6 => ?_)
      refine R_bind (fun v7 h8 => ?_)
      refine R_callV C mm_0 (mc_0 q _ _) rfl cf_M_has rfl ml_M_221 im_M_has sl_M_M_has_M_has (c_M_has (gk C) h8) (by decide) (by decide) rfl rfl (Nat.le_of_ble_eq_true rfl) d_M_layPlan_42 ?_
      refine R_if_eq C d_M_layPlan_45 (tgt := 50) (by decide) ?_ ?_
      · skip
        refine R_iload_n C 1 d_M_layPlan_50 rfl rfl ?_
        refine R_iconst C d_M_layPlan_51 (v := 1) (by decide +kernel) ?_
        refine R_aload_n C 3 d_M_layPlan_52 rfl rfl ?_
        refine gf_M_desk C fl_M_29 d_M_layPlan_53 ?_
        refine R_iload C 2 d_M_layPlan_56 rfl ?_
        refine R_iald C mm_6 (mc_6 q _ _) d_M_layPlan_58 (fun v9 => ?_)
        refine R_ishl C d_M_layPlan_59 ?_
        refine R_ior C d_M_layPlan_60 ?_
        refine R_nm (fun x10 => ?_)
        refine R_istore_n C (lv' := [(3, .int x10), (2, .int (s1 / 6)), (4, .int s3), (0, .ref (q.2.2.1 0))]) d_M_layPlan_61 rfl (by decide) rfl ?_
        refine R_iinc C 2 d_M_layPlan_62 rfl (iinc_v _ (v := (-1)) (by decide +kernel)) (lv' := [(4, .int (s3 + (-1))), (3, .int x10), (2, .int (s1 / 6)), (0, .ref (q.2.2.1 0))]) (by decide) rfl ?_
        refine R_goto C d_M_layPlan_65 (tgt := 12) (by decide) ?_
        exact R_sub [2, 1, 0, 3] rfl (ih (s1 / 6) x10 (s3 + (-1)) μ5)
      · skip
        refine R_iconst C d_M_layPlan_48 (v := 0) (by decide +kernel) ?_
        exact R_zret C (by decide) rfl d_M_layPlan_49
theorem d_M_layPlan_68 : decode prog_14_method_63_code 68 = .ok (.iconst 1, 1) := by decide +kernel
theorem d_M_layPlan_69 : decode prog_14_method_63_code 69 = .ok (.ireturn, 1) := by decide +kernel
theorem d_M_layPlan_5 : decode prog_14_method_63_code 5 = .ok (.getfield 7, 3) := by decide +kernel
set_option maxRecDepth 10000 in
set_option maxHeartbeats 4000000 in
theorem w_M_layPlan {q : QT} {z : ZT} {a1 : Int32} {μ : Mm} {ν : Ml} (C : Ctx sdM q z prog_14_method_63_code "BesideTomModel" 5 1 (some (FieldType.boolean))) : R sdM q z 5 (φIm ν) (F_M_layPlan a1 μ) μ ν 0 [(0, .ref (q.2.2.1 0)), (1, .int a1)] [] := by
  unfold F_M_layPlan
  refine R_iload_n C 1 d_M_layPlan_0 rfl rfl ?_
  refine R_istore_n C (lv' := [(2, .int a1), (0, .ref (q.2.2.1 0)), (1, .int a1)]) d_M_layPlan_1 rfl (by decide) rfl ?_
  refine R_iconst C d_M_layPlan_2 (v := 0) (by decide +kernel) ?_
  refine R_istore_n C (lv' := [(3, .int 0), (2, .int a1), (0, .ref (q.2.2.1 0)), (1, .int a1)]) d_M_layPlan_3 rfl (by decide) rfl ?_
  refine R_aload_n C 2 d_M_layPlan_4 rfl rfl ?_
  refine gf_M_pupils C fl_M_7 d_M_layPlan_5 ?_
  refine R_iconst C d_M_layPlan_8 (v := 1) (by decide +kernel) ?_
  refine R_isub C d_M_layPlan_9 ?_
  refine R_istore C (lv' := [(4, .int ((μ 0 0) - 1)), (3, .int 0), (2, .int a1), (0, .ref (q.2.2.1 0)), (1, .int a1)]) d_M_layPlan_10 (by decide) rfl ?_
  refine R_sub [2, 1, 0, 3] rfl ?_
  refine W_M_layPlan_12 C ?_ fu _ _ _ _
  intro μ11
  refine R_iconst C d_M_layPlan_68 (v := 1) (by decide +kernel) ?_
  exact R_zret C (by decide) rfl d_M_layPlan_69
theorem c_M_layPlan {q : QT} (hg : GOk sdM q) {a1 : Int32} {μ : Mm} {ν : Ml} {o : Int32 × Mm} (ho : F_M_layPlan a1 μ = some o) : Ct sdM q y_M_layPlan prog_14_method_63_code 5 (some (FieldType.boolean)) 1 [.ref (q.2.2.1 0), .int a1] μ ν ((φIm ν) o).1 ((φIm ν) o).2.1 ((φIm ν) o).2.2 := Ct_of rfl hg (fun z C => w_M_layPlan C) (Nat.le_of_ble_eq_true rfl) ho
def F_M_lowest (a1 : Int32) (a2 : Int32) (a3 : Int32) : Option (Int64) := (F_M_divisor a1 a2).bind fun v1 => (if a3 = 0 then if v1 = 0 then none else some (Int32.toInt64 (a1 / v1)) else if v1 = 0 then none else some (Int32.toInt64 (a2 / v1)))
theorem d_M_lowest_0 : decode prog_14_method_82_code 0 = .ok (.aload_n 0, 1) := by decide +kernel
theorem d_M_lowest_1 : decode prog_14_method_82_code 1 = .ok (.iload_n 1, 1) := by decide +kernel
theorem d_M_lowest_2 : decode prog_14_method_82_code 2 = .ok (.iload_n 2, 1) := by decide +kernel
theorem d_M_lowest_3 : decode prog_14_method_82_code 3 = .ok (.invokevirtual 411, 3) := by decide +kernel
theorem d_M_lowest_6 : decode prog_14_method_82_code 6 = .ok (.istore 4, 2) := by decide +kernel
theorem d_M_lowest_8 : decode prog_14_method_82_code 8 = .ok (.iload_n 3, 1) := by decide +kernel
theorem d_M_lowest_20 : decode prog_14_method_82_code 20 = .ok (.iload_n 2, 1) := by decide +kernel
theorem d_M_lowest_21 : decode prog_14_method_82_code 21 = .ok (.iload 4, 2) := by decide +kernel
theorem d_M_lowest_24 : decode prog_14_method_82_code 24 = .ok (.i2l, 1) := by decide +kernel
theorem d_M_lowest_25 : decode prog_14_method_82_code 25 = .ok (.lreturn, 1) := by decide +kernel
theorem d_M_lowest_12 : decode prog_14_method_82_code 12 = .ok (.iload_n 1, 1) := by decide +kernel
theorem d_M_lowest_13 : decode prog_14_method_82_code 13 = .ok (.iload 4, 2) := by decide +kernel
theorem d_M_lowest_16 : decode prog_14_method_82_code 16 = .ok (.i2l, 1) := by decide +kernel
theorem d_M_lowest_17 : decode prog_14_method_82_code 17 = .ok (.goto 8, 3) := by decide +kernel
theorem d_M_lowest_9 : decode prog_14_method_82_code 9 = .ok (.ifCond .ne 11, 3) := by decide +kernel
theorem d_M_lowest_23 : decode prog_14_method_82_code 23 = .ok (.idiv, 1) := by decide +kernel
theorem d_M_lowest_15 : decode prog_14_method_82_code 15 = .ok (.idiv, 1) := by decide +kernel
set_option maxRecDepth 10000 in
set_option maxHeartbeats 4000000 in
theorem w_M_lowest {q : QT} {z : ZT} {a1 : Int32} {a2 : Int32} {a3 : Int32} {μ : Mm} {ν : Ml} (C : Ctx sdM q z prog_14_method_82_code "BesideTomModel" 5 1 (some (FieldType.long))) : R sdM q z 5 (φL μ ν) (F_M_lowest a1 a2 a3) μ ν 0 [(0, .ref (q.2.2.1 0)), (1, .int a1), (2, .int a2), (3, .int a3)] [] := by
  unfold F_M_lowest
  refine R_aload_n C 0 d_M_lowest_0 rfl rfl ?_
  refine R_iload_n C 1 d_M_lowest_1 rfl rfl ?_
  refine R_iload_n C 2 d_M_lowest_2 rfl rfl ?_
  refine R_bind (fun v1 h2 => ?_)
  refine R_callV C mm_0 (mc_0 q _ _) rfl cf_M_divisor rfl ml_M_411 im_M_divisor sl_M_M_divisor_M_divisor (c_M_divisor (gk C) h2) (by decide) (by decide) rfl rfl (Nat.le_of_ble_eq_true rfl) d_M_lowest_3 ?_
  refine R_istore C (lv' := [(4, .int v1), (0, .ref (q.2.2.1 0)), (1, .int a1), (2, .int a2), (3, .int a3)]) d_M_lowest_6 (by decide) rfl ?_
  refine R_iload_n C 4 d_M_lowest_8 rfl rfl ?_
  refine R_if_ne C d_M_lowest_9 (tgt := 20) (by decide) ?_ ?_
  · skip
    refine R_iload_n C 3 d_M_lowest_20 rfl rfl ?_
    refine R_iload C 0 d_M_lowest_21 rfl ?_
    refine R_idivG C d_M_lowest_23 ?_
    refine R_i2l C d_M_lowest_24 ?_
    exact R_lret C rfl d_M_lowest_25
  · skip
    refine R_iload_n C 2 d_M_lowest_12 rfl rfl ?_
    refine R_iload C 0 d_M_lowest_13 rfl ?_
    refine R_idivG C d_M_lowest_15 ?_
    refine R_i2l C d_M_lowest_16 ?_
    refine R_goto C d_M_lowest_17 (tgt := 25) (by decide) ?_
    exact R_lret C rfl d_M_lowest_25
theorem c_M_lowest {q : QT} (hg : GOk sdM q) {a1 : Int32} {a2 : Int32} {a3 : Int32} {μ : Mm} {ν : Ml} {o : Int64} (ho : F_M_lowest a1 a2 a3 = some o) : Ct sdM q y_M_lowest prog_14_method_82_code 5 (some (FieldType.long)) 1 [.ref (q.2.2.1 0), .int a1, .int a2, .int a3] μ ν ((φL μ ν) o).1 ((φL μ ν) o).2.1 ((φL μ ν) o).2.2 := Ct_of rfl hg (fun z C => w_M_lowest C) (Nat.le_of_ble_eq_true rfl) ho
def L_M_many_4 (f3 : Int32) (k : Int32 → Option (Int32)) : Nat → Int32 → Int32 → Option (Int32)
  | 0, _, _ => none
  | n + 1, s1, s2 => (if 6 ≤ s2 then k s1 else (F_M_has f3 s2).bind fun v4 => jn (α := Int32) (fun K7 => (if v4 = 0 then K7 0 else K7 1)) (fun (j6 : Int32) => L_M_many_4 f3 k n (s1 + j6) (s2 + 1)))
def F_M_many (a1 : Int32) : Option (Int32) := L_M_many_4 a1 (fun (x8 : Int32) => some x8) fu 0 0
theorem d_M_many_0 : decode prog_14_method_6_code 0 = .ok (.iconst 0, 1) := by decide +kernel
theorem d_M_many_1 : decode prog_14_method_6_code 1 = .ok (.istore_n 2, 1) := by decide +kernel
theorem d_M_many_2 : decode prog_14_method_6_code 2 = .ok (.iconst 0, 1) := by decide +kernel
theorem d_M_many_3 : decode prog_14_method_6_code 3 = .ok (.istore_n 3, 1) := by decide +kernel
theorem d_M_many_4 : decode prog_14_method_6_code 4 = .ok (.iload_n 3, 1) := by decide +kernel
theorem d_M_many_5 : decode prog_14_method_6_code 5 = .ok (.bipush 6, 2) := by decide +kernel
theorem d_M_many_10 : decode prog_14_method_6_code 10 = .ok (.iload_n 2, 1) := by decide +kernel
theorem d_M_many_11 : decode prog_14_method_6_code 11 = .ok (.aload_n 0, 1) := by decide +kernel
theorem d_M_many_12 : decode prog_14_method_6_code 12 = .ok (.iload_n 1, 1) := by decide +kernel
theorem d_M_many_13 : decode prog_14_method_6_code 13 = .ok (.iload_n 3, 1) := by decide +kernel
theorem d_M_many_14 : decode prog_14_method_6_code 14 = .ok (.invokevirtual 221, 3) := by decide +kernel
theorem d_M_many_24 : decode prog_14_method_6_code 24 = .ok (.iconst 0, 1) := by decide +kernel
theorem d_M_many_20 : decode prog_14_method_6_code 20 = .ok (.iconst 1, 1) := by decide +kernel
theorem d_M_many_21 : decode prog_14_method_6_code 21 = .ok (.goto 4, 3) := by decide +kernel
theorem d_M_many_17 : decode prog_14_method_6_code 17 = .ok (.ifCond .eq 7, 3) := by decide +kernel
theorem d_M_many_25 : decode prog_14_method_6_code 25 = .ok (.iadd, 1) := by decide +kernel
theorem d_M_many_26 : decode prog_14_method_6_code 26 = .ok (.istore_n 2, 1) := by decide +kernel
theorem d_M_many_27 : decode prog_14_method_6_code 27 = .ok (.iinc 3 1, 3) := by decide +kernel
theorem d_M_many_30 : decode prog_14_method_6_code 30 = .ok (.goto (-26), 3) := by decide +kernel
theorem d_M_many_7 : decode prog_14_method_6_code 7 = .ok (.if_icmp .ge 26, 3) := by decide +kernel
set_option maxRecDepth 10000 in
set_option maxHeartbeats 4000000 in
theorem W_M_many_4 {q : QT} {z : ZT} {μ : Mm} {ν : Ml} {f3 : Int32} {k : Int32 → Option (Int32)} (C : Ctx sdM q z prog_14_method_6_code "BesideTomModel" 4 1 (some (FieldType.int))) (hk : ∀ (e0_ : Int32), R sdM q z 4 (φI μ ν) (k e0_) μ ν 33 [(2, .int e0_)] []) : ∀ (n : Nat) (s1 : Int32) (s2 : Int32), R sdM q z 4 (φI μ ν) (L_M_many_4 f3 k n s1 s2) μ ν 4 [(2, .int s1), (3, .int s2), (0, .ref (q.2.2.1 0)), (1, .int f3)] [] := by
  intro n
  induction n with
  | zero =>
    intros
    exact R_none
  | succ n ih =>
    intro s1 s2
    rw [L_M_many_4]
    refine R_iload_n C 1 d_M_many_4 rfl rfl ?_
    refine R_bipush C d_M_many_5 (v := 6) (by decide +kernel) ?_
    refine R_icmp_ge C d_M_many_7 (tgt := 33) (by decide) ?_ ?_
    · skip
      exact R_sub [0] rfl (hk s1)
    · skip
      refine R_iload_n C 0 d_M_many_10 rfl rfl ?_
      refine R_aload_n C 2 d_M_many_11 rfl rfl ?_
      refine R_iload_n C 3 d_M_many_12 rfl rfl ?_
      refine R_iload_n C 1 d_M_many_13 rfl rfl ?_
      refine R_bind (fun v4 h5 => ?_)
      refine R_callV C mm_0 (mc_0 q _ _) rfl cf_M_has rfl ml_M_221 im_M_has sl_M_M_has_M_has (c_M_has (gk C) h5) (by decide) (by decide) rfl rfl (Nat.le_of_ble_eq_true rfl) d_M_many_14 ?_
      refine R_jn (fun K7 => ∀ (j6 : Int32), R sdM q z 4 (φI μ ν) (K7 j6) μ ν 25 [(0, .ref (q.2.2.1 0)), (1, .int f3), (3, .int s2)] [.int j6, .int s1]) ?_ (fun K7 hK7 => ?_)
      · intro j6
        refine R_iadd C d_M_many_25 ?_
        refine R_istore_n C (lv' := [(2, .int (s1 + j6)), (0, .ref (q.2.2.1 0)), (1, .int f3), (3, .int s2)]) d_M_many_26 rfl (by decide) rfl ?_
        refine R_iinc C 3 d_M_many_27 rfl (iinc_v _ (v := 1) (by decide +kernel)) (lv' := [(3, .int (s2 + 1)), (2, .int (s1 + j6)), (0, .ref (q.2.2.1 0)), (1, .int f3)]) (by decide) rfl ?_
        refine R_goto C d_M_many_30 (tgt := 4) (by decide) ?_
        exact R_sub [1, 0, 2, 3] rfl (ih (s1 + j6) (s2 + 1))
      · skip
        refine R_if_eq C d_M_many_17 (tgt := 24) (by decide) ?_ ?_
        · skip
          refine R_iconst C d_M_many_24 (v := 0) (by decide +kernel) ?_
          exact R_sub [2, 3, 1] rfl (hK7 0)
        · skip
          refine R_iconst C d_M_many_20 (v := 1) (by decide +kernel) ?_
          refine R_goto C d_M_many_21 (tgt := 25) (by decide) ?_
          exact R_sub [2, 3, 1] rfl (hK7 1)
theorem d_M_many_33 : decode prog_14_method_6_code 33 = .ok (.iload_n 2, 1) := by decide +kernel
theorem d_M_many_34 : decode prog_14_method_6_code 34 = .ok (.ireturn, 1) := by decide +kernel
set_option maxRecDepth 10000 in
set_option maxHeartbeats 4000000 in
theorem w_M_many {q : QT} {z : ZT} {a1 : Int32} {μ : Mm} {ν : Ml} (C : Ctx sdM q z prog_14_method_6_code "BesideTomModel" 4 1 (some (FieldType.int))) : R sdM q z 4 (φI μ ν) (F_M_many a1) μ ν 0 [(0, .ref (q.2.2.1 0)), (1, .int a1)] [] := by
  unfold F_M_many
  refine R_iconst C d_M_many_0 (v := 0) (by decide +kernel) ?_
  refine R_istore_n C (lv' := [(2, .int 0), (0, .ref (q.2.2.1 0)), (1, .int a1)]) d_M_many_1 rfl (by decide) rfl ?_
  refine R_iconst C d_M_many_2 (v := 0) (by decide +kernel) ?_
  refine R_istore_n C (lv' := [(3, .int 0), (2, .int 0), (0, .ref (q.2.2.1 0)), (1, .int a1)]) d_M_many_3 rfl (by decide) rfl ?_
  refine R_sub [1, 0, 2, 3] rfl ?_
  refine W_M_many_4 C ?_ fu _ _
  intro x8
  refine R_iload_n C 0 d_M_many_33 rfl rfl ?_
  exact R_iret C rfl d_M_many_34
theorem c_M_many {q : QT} (hg : GOk sdM q) {a1 : Int32} {μ : Mm} {ν : Ml} {o : Int32} (ho : F_M_many a1 = some o) : Ct sdM q y_M_many prog_14_method_6_code 4 (some (FieldType.int)) 1 [.ref (q.2.2.1 0), .int a1] μ ν ((φI μ ν) o).1 ((φI μ ν) o).2.1 ((φI μ ν) o).2.2 := Ct_of rfl hg (fun z C => w_M_many C) (Nat.le_of_ble_eq_true rfl) ho
def L_M_pupil_41 (f6 : Int32) (f7 : Int32) (μ : Mm) (k : Int32 → Option (Int32 × Mm)) : Nat → Int32 → Option (Int32 × Mm)
  | 0, _ => none
  | n + 1, s5 => (F_M_whoHas s5 μ).bind fun v8 => (if v8 < 0 then k s5 else L_M_pupil_41 f6 f7 μ k n (s5 + 1))
def L_M_pupil_115 (k : Mm → Option (Int32 × Mm)) : Nat → Int32 → Mm → Option (Int32 × Mm)
  | 0, _, _ => none
  | n + 1, s16, μ17 => (if 4 ≤ s16 then k μ17 else (wrI μ17 8 24 ((4 * (μ17 0 0)) + s16) 0).bind fun μ18 => L_M_pupil_115 k n (s16 + 1) μ18)
def F_M_pupil (a1 : Int32) (a2 : Int32) (μ : Mm) : Option (Int32 × Mm) := (F_M_in a1 0 6).bind fun v1 => (if v1 = 0 then some ((-1), μ) else (F_M_in a2 0 9).bind fun v3 => (if v3 = 0 then some ((-2), μ) else (if (μ 0 0) = 6 then some ((-4), μ) else L_M_pupil_41 a1 a2 μ (fun (x10 : Int32) => (wrI μ 4 6 (μ 0 0) a1).bind fun μ11 => (wrI μ11 5 6 (μ11 0 0) a2).bind fun μ12 => (wrI μ12 6 6 (μ12 0 0) x10).bind fun μ13 => (wrI μ13 7 6 (μ13 0 0) 0).bind fun μ14 => lt_ (up2 μ14 0 1 ((μ14 0 1) &&& ((1 <<< ((μ14 0 0) &&& 31)) ^^^ (-1)))) fun μ15 => L_M_pupil_115 (fun (μ19 : Mm) => lt_ (up2 μ19 0 0 ((μ19 0 0) + 1)) fun μ20 => some (((μ20 0 0) - 1), μ20)) fu 0 μ15) fu 0)))
theorem d_M_pupil_0 : decode prog_14_method_12_code 0 = .ok (.aload_n 0, 1) := by decide +kernel
theorem d_M_pupil_1 : decode prog_14_method_12_code 1 = .ok (.iload_n 1, 1) := by decide +kernel
theorem d_M_pupil_2 : decode prog_14_method_12_code 2 = .ok (.iconst 0, 1) := by decide +kernel
theorem d_M_pupil_3 : decode prog_14_method_12_code 3 = .ok (.bipush 6, 2) := by decide +kernel
theorem d_M_pupil_5 : decode prog_14_method_12_code 5 = .ok (.invokevirtual 225, 3) := by decide +kernel
theorem d_M_pupil_13 : decode prog_14_method_12_code 13 = .ok (.aload_n 0, 1) := by decide +kernel
theorem d_M_pupil_14 : decode prog_14_method_12_code 14 = .ok (.iload_n 2, 1) := by decide +kernel
theorem d_M_pupil_15 : decode prog_14_method_12_code 15 = .ok (.iconst 0, 1) := by decide +kernel
theorem d_M_pupil_16 : decode prog_14_method_12_code 16 = .ok (.bipush 9, 2) := by decide +kernel
theorem d_M_pupil_18 : decode prog_14_method_12_code 18 = .ok (.invokevirtual 225, 3) := by decide +kernel
theorem d_M_pupil_27 : decode prog_14_method_12_code 27 = .ok (.aload_n 0, 1) := by decide +kernel
theorem d_M_pupil_31 : decode prog_14_method_12_code 31 = .ok (.bipush 6, 2) := by decide +kernel
theorem d_M_pupil_39 : decode prog_14_method_12_code 39 = .ok (.iconst 0, 1) := by decide +kernel
theorem d_M_pupil_40 : decode prog_14_method_12_code 40 = .ok (.istore_n 3, 1) := by decide +kernel
theorem d_M_pupil_41 : decode prog_14_method_12_code 41 = .ok (.aload_n 0, 1) := by decide +kernel
theorem d_M_pupil_42 : decode prog_14_method_12_code 42 = .ok (.iload_n 3, 1) := by decide +kernel
theorem d_M_pupil_43 : decode prog_14_method_12_code 43 = .ok (.invokevirtual 229, 3) := by decide +kernel
theorem d_M_pupil_49 : decode prog_14_method_12_code 49 = .ok (.iinc 3 1, 3) := by decide +kernel
theorem d_M_pupil_52 : decode prog_14_method_12_code 52 = .ok (.goto (-11), 3) := by decide +kernel
theorem d_M_pupil_46 : decode prog_14_method_12_code 46 = .ok (.ifCond .lt 9, 3) := by decide +kernel
set_option maxRecDepth 10000 in
set_option maxHeartbeats 4000000 in
theorem W_M_pupil_41 {q : QT} {z : ZT} {μ : Mm} {ν : Ml} {f6 : Int32} {f7 : Int32} {k : Int32 → Option (Int32 × Mm)} (C : Ctx sdM q z prog_14_method_12_code "BesideTomModel" 5 1 (some (FieldType.int))) (hk : ∀ (e0_ : Int32), R sdM q z 5 (φIm ν) (k e0_) μ ν 55 [(0, .ref (q.2.2.1 0)), (1, .int f6), (2, .int f7), (3, .int e0_)] []) : ∀ (n : Nat) (s5 : Int32), R sdM q z 5 (φIm ν) (L_M_pupil_41 f6 f7 μ k n s5) μ ν 41 [(3, .int s5), (0, .ref (q.2.2.1 0)), (1, .int f6), (2, .int f7)] [] := by
  intro n
  induction n with
  | zero =>
    intros
    exact R_none
  | succ n ih =>
    intro s5
    rw [L_M_pupil_41]
    refine R_aload_n C 1 d_M_pupil_41 rfl rfl ?_
    refine R_iload_n C 0 d_M_pupil_42 rfl rfl ?_
    refine R_bind (fun v8 h9 => ?_)
    refine R_callV C mm_0 (mc_0 q _ _) rfl cf_M_whoHas rfl ml_M_229 im_M_whoHas sl_M_M_whoHas_M_whoHas (c_M_whoHas (gk C) h9) (by decide) (by decide) rfl rfl (Nat.le_of_ble_eq_true rfl) d_M_pupil_43 ?_
    refine R_if_lt C d_M_pupil_46 (tgt := 55) (by decide) ?_ ?_
    · skip
      exact R_sub [1, 2, 3, 0] rfl (hk s5)
    · skip
      refine R_iinc C 0 d_M_pupil_49 rfl (iinc_v _ (v := 1) (by decide +kernel)) (lv' := [(3, .int (s5 + 1)), (0, .ref (q.2.2.1 0)), (1, .int f6), (2, .int f7)]) (by decide) rfl ?_
      refine R_goto C d_M_pupil_52 (tgt := 41) (by decide) ?_
      exact R_sub [0, 1, 2, 3] rfl (ih (s5 + 1))
theorem d_M_pupil_55 : decode prog_14_method_12_code 55 = .ok (.aload_n 0, 1) := by decide +kernel
theorem d_M_pupil_59 : decode prog_14_method_12_code 59 = .ok (.aload_n 0, 1) := by decide +kernel
theorem d_M_pupil_63 : decode prog_14_method_12_code 63 = .ok (.iload_n 1, 1) := by decide +kernel
theorem d_M_pupil_65 : decode prog_14_method_12_code 65 = .ok (.aload_n 0, 1) := by decide +kernel
theorem d_M_pupil_69 : decode prog_14_method_12_code 69 = .ok (.aload_n 0, 1) := by decide +kernel
theorem d_M_pupil_73 : decode prog_14_method_12_code 73 = .ok (.iload_n 2, 1) := by decide +kernel
theorem d_M_pupil_75 : decode prog_14_method_12_code 75 = .ok (.aload_n 0, 1) := by decide +kernel
theorem d_M_pupil_79 : decode prog_14_method_12_code 79 = .ok (.aload_n 0, 1) := by decide +kernel
theorem d_M_pupil_83 : decode prog_14_method_12_code 83 = .ok (.iload_n 3, 1) := by decide +kernel
theorem d_M_pupil_85 : decode prog_14_method_12_code 85 = .ok (.aload_n 0, 1) := by decide +kernel
theorem d_M_pupil_89 : decode prog_14_method_12_code 89 = .ok (.aload_n 0, 1) := by decide +kernel
theorem d_M_pupil_93 : decode prog_14_method_12_code 93 = .ok (.iconst 0, 1) := by decide +kernel
theorem d_M_pupil_95 : decode prog_14_method_12_code 95 = .ok (.aload_n 0, 1) := by decide +kernel
theorem d_M_pupil_96 : decode prog_14_method_12_code 96 = .ok (.dup, 1) := by decide +kernel
theorem d_M_pupil_100 : decode prog_14_method_12_code 100 = .ok (.iconst 1, 1) := by decide +kernel
theorem d_M_pupil_101 : decode prog_14_method_12_code 101 = .ok (.aload_n 0, 1) := by decide +kernel
theorem d_M_pupil_105 : decode prog_14_method_12_code 105 = .ok (.ishl, 1) := by decide +kernel
theorem d_M_pupil_106 : decode prog_14_method_12_code 106 = .ok (.iconst (-1), 1) := by decide +kernel
theorem d_M_pupil_107 : decode prog_14_method_12_code 107 = .ok (.ixor, 1) := by decide +kernel
theorem d_M_pupil_108 : decode prog_14_method_12_code 108 = .ok (.iand, 1) := by decide +kernel
theorem d_M_pupil_112 : decode prog_14_method_12_code 112 = .ok (.iconst 0, 1) := by decide +kernel
theorem d_M_pupil_113 : decode prog_14_method_12_code 113 = .ok (.istore 4, 2) := by decide +kernel
theorem d_M_pupil_115 : decode prog_14_method_12_code 115 = .ok (.iload 4, 2) := by decide +kernel
theorem d_M_pupil_117 : decode prog_14_method_12_code 117 = .ok (.iconst 4, 1) := by decide +kernel
theorem d_M_pupil_121 : decode prog_14_method_12_code 121 = .ok (.aload_n 0, 1) := by decide +kernel
theorem d_M_pupil_125 : decode prog_14_method_12_code 125 = .ok (.iconst 4, 1) := by decide +kernel
theorem d_M_pupil_126 : decode prog_14_method_12_code 126 = .ok (.aload_n 0, 1) := by decide +kernel
theorem d_M_pupil_130 : decode prog_14_method_12_code 130 = .ok (.imul, 1) := by decide +kernel
theorem d_M_pupil_131 : decode prog_14_method_12_code 131 = .ok (.iload 4, 2) := by decide +kernel
theorem d_M_pupil_133 : decode prog_14_method_12_code 133 = .ok (.iadd, 1) := by decide +kernel
theorem d_M_pupil_134 : decode prog_14_method_12_code 134 = .ok (.iconst 0, 1) := by decide +kernel
theorem d_M_pupil_136 : decode prog_14_method_12_code 136 = .ok (.iinc 4 1, 3) := by decide +kernel
theorem d_M_pupil_139 : decode prog_14_method_12_code 139 = .ok (.goto (-24), 3) := by decide +kernel
theorem d_M_pupil_135 : decode prog_14_method_12_code 135 = .ok (.iastore, 1) := by decide +kernel
theorem d_M_pupil_127 : decode prog_14_method_12_code 127 = .ok (.getfield 7, 3) := by decide +kernel
theorem d_M_pupil_122 : decode prog_14_method_12_code 122 = .ok (.getfield 35, 3) := by decide +kernel
theorem d_M_pupil_118 : decode prog_14_method_12_code 118 = .ok (.if_icmp .ge 24, 3) := by decide +kernel
set_option maxRecDepth 10000 in
set_option maxHeartbeats 4000000 in
theorem W_M_pupil_115 {q : QT} {z : ZT} {ν : Ml} {k : Mm → Option (Int32 × Mm)} (C : Ctx sdM q z prog_14_method_12_code "BesideTomModel" 5 1 (some (FieldType.int))) (hk : ∀ (me_ : Mm), R sdM q z 5 (φIm ν) (k me_) me_ ν 142 [(0, .ref (q.2.2.1 0))] []) : ∀ (n : Nat) (s16 : Int32) (μ17 : Mm), R sdM q z 5 (φIm ν) (L_M_pupil_115 k n s16 μ17) μ17 ν 115 [(4, .int s16), (0, .ref (q.2.2.1 0))] [] := by
  intro n
  induction n with
  | zero =>
    intros
    exact R_none
  | succ n ih =>
    intro s16 μ17
    rw [L_M_pupil_115]
    refine R_iload C 0 d_M_pupil_115 rfl ?_
    refine R_iconst C d_M_pupil_117 (v := 4) (by decide +kernel) ?_
    refine R_icmp_ge C d_M_pupil_118 (tgt := 142) (by decide) ?_ ?_
    · skip
      exact R_sub [1] rfl (hk μ17)
    · skip
      refine R_aload_n C 1 d_M_pupil_121 rfl rfl ?_
      refine gf_M_lines C fl_M_35 d_M_pupil_122 ?_
      refine R_iconst C d_M_pupil_125 (v := 4) (by decide +kernel) ?_
      refine R_aload_n C 1 d_M_pupil_126 rfl rfl ?_
      refine gf_M_pupils C fl_M_7 d_M_pupil_127 ?_
      refine R_imul C d_M_pupil_130 ?_
      refine R_iload C 0 d_M_pupil_131 rfl ?_
      refine R_iadd C d_M_pupil_133 ?_
      refine R_iconst C d_M_pupil_134 (v := 0) (by decide +kernel) ?_
      refine R_iast C mm_8 (fun h => mc_8 q h _) d_M_pupil_135 (fun μ18 => ?_)
      refine R_iinc C 0 d_M_pupil_136 rfl (iinc_v _ (v := 1) (by decide +kernel)) (lv' := [(4, .int (s16 + 1)), (0, .ref (q.2.2.1 0))]) (by decide) rfl ?_
      refine R_goto C d_M_pupil_139 (tgt := 115) (by decide) ?_
      exact R_sub [0, 1] rfl (ih (s16 + 1) μ18)
theorem d_M_pupil_142 : decode prog_14_method_12_code 142 = .ok (.aload_n 0, 1) := by decide +kernel
theorem d_M_pupil_143 : decode prog_14_method_12_code 143 = .ok (.dup, 1) := by decide +kernel
theorem d_M_pupil_147 : decode prog_14_method_12_code 147 = .ok (.iconst 1, 1) := by decide +kernel
theorem d_M_pupil_148 : decode prog_14_method_12_code 148 = .ok (.iadd, 1) := by decide +kernel
theorem d_M_pupil_152 : decode prog_14_method_12_code 152 = .ok (.aload_n 0, 1) := by decide +kernel
theorem d_M_pupil_156 : decode prog_14_method_12_code 156 = .ok (.iconst 1, 1) := by decide +kernel
theorem d_M_pupil_157 : decode prog_14_method_12_code 157 = .ok (.isub, 1) := by decide +kernel
theorem d_M_pupil_158 : decode prog_14_method_12_code 158 = .ok (.ireturn, 1) := by decide +kernel
theorem d_M_pupil_153 : decode prog_14_method_12_code 153 = .ok (.getfield 7, 3) := by decide +kernel
theorem d_M_pupil_144 : decode prog_14_method_12_code 144 = .ok (.getfield 7, 3) := by decide +kernel
theorem d_M_pupil_102 : decode prog_14_method_12_code 102 = .ok (.getfield 7, 3) := by decide +kernel
theorem d_M_pupil_97 : decode prog_14_method_12_code 97 = .ok (.getfield 13, 3) := by decide +kernel
theorem d_M_pupil_94 : decode prog_14_method_12_code 94 = .ok (.iastore, 1) := by decide +kernel
theorem d_M_pupil_90 : decode prog_14_method_12_code 90 = .ok (.getfield 7, 3) := by decide +kernel
theorem d_M_pupil_86 : decode prog_14_method_12_code 86 = .ok (.getfield 32, 3) := by decide +kernel
theorem d_M_pupil_84 : decode prog_14_method_12_code 84 = .ok (.iastore, 1) := by decide +kernel
theorem d_M_pupil_80 : decode prog_14_method_12_code 80 = .ok (.getfield 7, 3) := by decide +kernel
theorem d_M_pupil_76 : decode prog_14_method_12_code 76 = .ok (.getfield 29, 3) := by decide +kernel
theorem d_M_pupil_74 : decode prog_14_method_12_code 74 = .ok (.iastore, 1) := by decide +kernel
theorem d_M_pupil_70 : decode prog_14_method_12_code 70 = .ok (.getfield 7, 3) := by decide +kernel
theorem d_M_pupil_66 : decode prog_14_method_12_code 66 = .ok (.getfield 26, 3) := by decide +kernel
theorem d_M_pupil_64 : decode prog_14_method_12_code 64 = .ok (.iastore, 1) := by decide +kernel
theorem d_M_pupil_60 : decode prog_14_method_12_code 60 = .ok (.getfield 7, 3) := by decide +kernel
theorem d_M_pupil_56 : decode prog_14_method_12_code 56 = .ok (.getfield 22, 3) := by decide +kernel
theorem d_M_pupil_36 : decode prog_14_method_12_code 36 = .ok (.bipush (-4), 2) := by decide +kernel
theorem d_M_pupil_38 : decode prog_14_method_12_code 38 = .ok (.ireturn, 1) := by decide +kernel
theorem d_M_pupil_33 : decode prog_14_method_12_code 33 = .ok (.if_icmp .ne 6, 3) := by decide +kernel
theorem d_M_pupil_28 : decode prog_14_method_12_code 28 = .ok (.getfield 7, 3) := by decide +kernel
theorem d_M_pupil_24 : decode prog_14_method_12_code 24 = .ok (.bipush (-2), 2) := by decide +kernel
theorem d_M_pupil_26 : decode prog_14_method_12_code 26 = .ok (.ireturn, 1) := by decide +kernel
theorem d_M_pupil_21 : decode prog_14_method_12_code 21 = .ok (.ifCond .ne 6, 3) := by decide +kernel
theorem d_M_pupil_11 : decode prog_14_method_12_code 11 = .ok (.iconst (-1), 1) := by decide +kernel
theorem d_M_pupil_12 : decode prog_14_method_12_code 12 = .ok (.ireturn, 1) := by decide +kernel
theorem d_M_pupil_8 : decode prog_14_method_12_code 8 = .ok (.ifCond .ne 5, 3) := by decide +kernel
theorem d_M_pupil_109 : decode prog_14_method_12_code 109 = .ok (.putfield 13, 3) := by decide +kernel
theorem d_M_pupil_149 : decode prog_14_method_12_code 149 = .ok (.putfield 7, 3) := by decide +kernel
set_option maxRecDepth 10000 in
set_option maxHeartbeats 4000000 in
theorem w_M_pupil {q : QT} {z : ZT} {a1 : Int32} {a2 : Int32} {μ : Mm} {ν : Ml} (C : Ctx sdM q z prog_14_method_12_code "BesideTomModel" 5 1 (some (FieldType.int))) : R sdM q z 5 (φIm ν) (F_M_pupil a1 a2 μ) μ ν 0 [(0, .ref (q.2.2.1 0)), (1, .int a1), (2, .int a2)] [] := by
  unfold F_M_pupil
  refine R_aload_n C 0 d_M_pupil_0 rfl rfl ?_
  refine R_iload_n C 1 d_M_pupil_1 rfl rfl ?_
  refine R_iconst C d_M_pupil_2 (v := 0) (by decide +kernel) ?_
  refine R_bipush C d_M_pupil_3 (v := 6) (by decide +kernel) ?_
  refine R_bind (fun v1 h2 => ?_)
  refine R_callV C mm_0 (mc_0 q _ _) rfl cf_M_in rfl ml_M_225 im_M_in sl_M_M_in_M_in (c_M_in (gk C) h2) (by decide) (by decide) rfl rfl (Nat.le_of_ble_eq_true rfl) d_M_pupil_5 ?_
  refine R_if_ne C d_M_pupil_8 (tgt := 13) (by decide) ?_ ?_
  · skip
    refine R_aload_n C 0 d_M_pupil_13 rfl rfl ?_
    refine R_iload_n C 2 d_M_pupil_14 rfl rfl ?_
    refine R_iconst C d_M_pupil_15 (v := 0) (by decide +kernel) ?_
    refine R_bipush C d_M_pupil_16 (v := 9) (by decide +kernel) ?_
    refine R_bind (fun v3 h4 => ?_)
    refine R_callV C mm_0 (mc_0 q _ _) rfl cf_M_in rfl ml_M_225 im_M_in sl_M_M_in_M_in (c_M_in (gk C) h4) (by decide) (by decide) rfl rfl (Nat.le_of_ble_eq_true rfl) d_M_pupil_18 ?_
    refine R_if_ne C d_M_pupil_21 (tgt := 27) (by decide) ?_ ?_
    · skip
      refine R_aload_n C 0 d_M_pupil_27 rfl rfl ?_
      refine gf_M_pupils C fl_M_7 d_M_pupil_28 ?_
      refine R_bipush C d_M_pupil_31 (v := 6) (by decide +kernel) ?_
      refine R_icmp_ne C d_M_pupil_33 (tgt := 39) (by decide) ?_ ?_
      · skip
        refine R_iconst C d_M_pupil_39 (v := 0) (by decide +kernel) ?_
        refine R_istore_n C (lv' := [(3, .int 0), (0, .ref (q.2.2.1 0)), (1, .int a1), (2, .int a2)]) d_M_pupil_40 rfl (by decide) rfl ?_
        refine R_sub [0, 1, 2, 3] rfl ?_
        refine W_M_pupil_41 C ?_ fu _
        intro x10
        refine R_aload_n C 0 d_M_pupil_55 rfl rfl ?_
        refine gf_M_kind C fl_M_22 d_M_pupil_56 ?_
        refine R_aload_n C 0 d_M_pupil_59 rfl rfl ?_
        refine gf_M_pupils C fl_M_7 d_M_pupil_60 ?_
        refine R_iload_n C 1 d_M_pupil_63 rfl rfl ?_
        refine R_iast C mm_4 (fun h => mc_4 q h _) d_M_pupil_64 (fun μ11 => ?_)
        refine R_aload_n C 0 d_M_pupil_65 rfl rfl ?_
        refine gf_M_v C fl_M_26 d_M_pupil_66 ?_
        refine R_aload_n C 0 d_M_pupil_69 rfl rfl ?_
        refine gf_M_pupils C fl_M_7 d_M_pupil_70 ?_
        refine R_iload_n C 2 d_M_pupil_73 rfl rfl ?_
        refine R_iast C mm_5 (fun h => mc_5 q h _) d_M_pupil_74 (fun μ12 => ?_)
        refine R_aload_n C 0 d_M_pupil_75 rfl rfl ?_
        refine gf_M_desk C fl_M_29 d_M_pupil_76 ?_
        refine R_aload_n C 0 d_M_pupil_79 rfl rfl ?_
        refine gf_M_pupils C fl_M_7 d_M_pupil_80 ?_
        refine R_iload_n C 3 d_M_pupil_83 rfl rfl ?_
        refine R_iast C mm_6 (fun h => mc_6 q h _) d_M_pupil_84 (fun μ13 => ?_)
        refine R_aload_n C 0 d_M_pupil_85 rfl rfl ?_
        refine gf_M_knew C fl_M_32 d_M_pupil_86 ?_
        refine R_aload_n C 0 d_M_pupil_89 rfl rfl ?_
        refine gf_M_pupils C fl_M_7 d_M_pupil_90 ?_
        refine R_iconst C d_M_pupil_93 (v := 0) (by decide +kernel) ?_
        refine R_iast C mm_7 (fun h => mc_7 q h _) d_M_pupil_94 (fun μ14 => ?_)
        refine R_aload_n C 0 d_M_pupil_95 rfl rfl ?_
        refine R_dup C d_M_pupil_96 rfl ?_
        refine gf_M_gone C fl_M_13 d_M_pupil_97 ?_
        refine R_iconst C d_M_pupil_100 (v := 1) (by decide +kernel) ?_
        refine R_aload_n C 0 d_M_pupil_101 rfl rfl ?_
        refine gf_M_pupils C fl_M_7 d_M_pupil_102 ?_
        refine R_ishl C d_M_pupil_105 ?_
        refine R_iconst C d_M_pupil_106 (v := (-1)) (by decide +kernel) ?_
        refine R_ixor C d_M_pupil_107 ?_
        refine R_iand C d_M_pupil_108 ?_
        refine pf_M_gone C fl_M_13 d_M_pupil_109 (fun μ15 => ?_)
        refine R_iconst C d_M_pupil_112 (v := 0) (by decide +kernel) ?_
        refine R_istore C (lv' := [(4, .int 0), (0, .ref (q.2.2.1 0)), (1, .int a1), (2, .int a2), (3, .int x10)]) d_M_pupil_113 (by decide) rfl ?_
        refine R_sub [0, 1] rfl ?_
        refine W_M_pupil_115 C ?_ fu _ _
        intro μ19
        refine R_aload_n C 0 d_M_pupil_142 rfl rfl ?_
        refine R_dup C d_M_pupil_143 rfl ?_
        refine gf_M_pupils C fl_M_7 d_M_pupil_144 ?_
        refine R_iconst C d_M_pupil_147 (v := 1) (by decide +kernel) ?_
        refine R_iadd C d_M_pupil_148 ?_
        refine pf_M_pupils C fl_M_7 d_M_pupil_149 (fun μ20 => ?_)
        refine R_aload_n C 0 d_M_pupil_152 rfl rfl ?_
        refine gf_M_pupils C fl_M_7 d_M_pupil_153 ?_
        refine R_iconst C d_M_pupil_156 (v := 1) (by decide +kernel) ?_
        refine R_isub C d_M_pupil_157 ?_
        exact R_iret C rfl d_M_pupil_158
      · skip
        refine R_bipush C d_M_pupil_36 (v := (-4)) (by decide +kernel) ?_
        exact R_iret C rfl d_M_pupil_38
    · skip
      refine R_bipush C d_M_pupil_24 (v := (-2)) (by decide +kernel) ?_
      exact R_iret C rfl d_M_pupil_26
  · skip
    refine R_iconst C d_M_pupil_11 (v := (-1)) (by decide +kernel) ?_
    exact R_iret C rfl d_M_pupil_12
theorem c_M_pupil {q : QT} (hg : GOk sdM q) {a1 : Int32} {a2 : Int32} {μ : Mm} {ν : Ml} {o : Int32 × Mm} (ho : F_M_pupil a1 a2 μ = some o) : Ct sdM q y_M_pupil prog_14_method_12_code 5 (some (FieldType.int)) 1 [.ref (q.2.2.1 0), .int a1, .int a2] μ ν ((φIm ν) o).1 ((φIm ν) o).2.1 ((φIm ν) o).2.2 := Ct_of rfl hg (fun z C => w_M_pupil C) (Nat.le_of_ble_eq_true rfl) ho
def F_M_pupilWhispers (a1 : Int32) (a2 : Int32) (μ : Mm) : Option (Int32 × Mm) := (F_M_body 10 μ).bind fun μ1 => some ((a2 + a1), μ1)
theorem d_M_pupilWhispers_0 : decode prog_14_method_93_code 0 = .ok (.aload_n 0, 1) := by decide +kernel
theorem d_M_pupilWhispers_1 : decode prog_14_method_93_code 1 = .ok (.bipush 10, 2) := by decide +kernel
theorem d_M_pupilWhispers_3 : decode prog_14_method_93_code 3 = .ok (.invokevirtual 423, 3) := by decide +kernel
theorem d_M_pupilWhispers_6 : decode prog_14_method_93_code 6 = .ok (.iload_n 2, 1) := by decide +kernel
theorem d_M_pupilWhispers_7 : decode prog_14_method_93_code 7 = .ok (.iload_n 1, 1) := by decide +kernel
theorem d_M_pupilWhispers_8 : decode prog_14_method_93_code 8 = .ok (.iadd, 1) := by decide +kernel
theorem d_M_pupilWhispers_9 : decode prog_14_method_93_code 9 = .ok (.ireturn, 1) := by decide +kernel
set_option maxRecDepth 10000 in
set_option maxHeartbeats 4000000 in
theorem w_M_pupilWhispers {q : QT} {z : ZT} {a1 : Int32} {a2 : Int32} {μ : Mm} {ν : Ml} (C : Ctx sdM q z prog_14_method_93_code "BesideTomModel" 3 1 (some (FieldType.int))) : R sdM q z 3 (φIm ν) (F_M_pupilWhispers a1 a2 μ) μ ν 0 [(0, .ref (q.2.2.1 0)), (1, .int a1), (2, .int a2)] [] := by
  unfold F_M_pupilWhispers
  refine R_aload_n C 0 d_M_pupilWhispers_0 rfl rfl ?_
  refine R_bipush C d_M_pupilWhispers_1 (v := 10) (by decide +kernel) ?_
  refine R_bind (fun μ1 h2 => ?_)
  refine R_callV C mm_0 (mc_0 q _ _) rfl cf_M_body rfl ml_M_423 im_M_body sl_M_M_body_M_body (c_M_body (gk C) h2) (by decide) (by decide) rfl rfl (Nat.le_of_ble_eq_true rfl) d_M_pupilWhispers_3 ?_
  refine R_iload_n C 2 d_M_pupilWhispers_6 rfl rfl ?_
  refine R_iload_n C 1 d_M_pupilWhispers_7 rfl rfl ?_
  refine R_iadd C d_M_pupilWhispers_8 ?_
  exact R_iret C rfl d_M_pupilWhispers_9
theorem c_M_pupilWhispers {q : QT} (hg : GOk sdM q) {a1 : Int32} {a2 : Int32} {μ : Mm} {ν : Ml} {o : Int32 × Mm} (ho : F_M_pupilWhispers a1 a2 μ = some o) : Ct sdM q y_M_pupilWhispers prog_14_method_93_code 3 (some (FieldType.int)) 1 [.ref (q.2.2.1 0), .int a1, .int a2] μ ν ((φIm ν) o).1 ((φIm ν) o).2.1 ((φIm ν) o).2.2 := Ct_of rfl hg (fun z C => w_M_pupilWhispers C) (Nat.le_of_ble_eq_true rfl) ho
def L_M_settle_0 (f7 : Int32) (k : Mm → Option (Mm)) : Nat → Mm → Option (Mm)
  | 0, _ => none
  | n + 1, μ8 => (if (μ8 0 23) ≤ 0 then k μ8 else (rdI (μ8 21) 101 ((μ8 0 23) - 1)).bind fun v9 => jn (α := Unit) (fun K15 => (if v9 = 38 then K15 () else (rdI (μ8 21) 101 ((μ8 0 23) - 1)).bind fun v10 => (if v10 = 124 then (if f7 = 38 then k μ8 else K15 ()) else k μ8))) (fun (_ : Unit) => lt_ (up2 μ8 0 23 ((μ8 0 23) - 1)) fun μ11 => (rdI (μ11 21) 101 (μ11 0 23)).bind fun v12 => (F_M_emits (-v12) μ11).bind fun μ13 => L_M_settle_0 f7 k n μ13))
def F_M_settle (a1 : Int32) (μ : Mm) : Option (Mm) := (if (μ 0 23) ≤ 0 then some μ else (rdI (μ 21) 101 ((μ 0 23) - 1)).bind fun v1 => jn (α := Unit) (fun K17 => (if v1 = 38 then K17 () else (rdI (μ 21) 101 ((μ 0 23) - 1)).bind fun v2 => (if v2 = 124 then (if a1 = 38 then some μ else K17 ()) else some μ))) (fun (_ : Unit) => lt_ (up2 μ 0 23 ((μ 0 23) - 1)) fun μ3 => (rdI (μ3 21) 101 (μ3 0 23)).bind fun v4 => (F_M_emits (-v4) μ3).bind fun μ5 => L_M_settle_0 a1 (fun (μ16 : Mm) => some μ16) fu μ5))
theorem d_M_settle_0 : decode prog_14_method_29_code 0 = .ok (.aload_n 0, 1) := by decide +kernel
theorem d_M_settle_72 : decode prog_14_method_29_code 72 = .ok (.return_, 1) := by decide +kernel
theorem d_M_settle_7 : decode prog_14_method_29_code 7 = .ok (.aload_n 0, 1) := by decide +kernel
theorem d_M_settle_11 : decode prog_14_method_29_code 11 = .ok (.aload_n 0, 1) := by decide +kernel
theorem d_M_settle_15 : decode prog_14_method_29_code 15 = .ok (.iconst 1, 1) := by decide +kernel
theorem d_M_settle_16 : decode prog_14_method_29_code 16 = .ok (.isub, 1) := by decide +kernel
theorem d_M_settle_18 : decode prog_14_method_29_code 18 = .ok (.bipush 38, 2) := by decide +kernel
theorem d_M_settle_23 : decode prog_14_method_29_code 23 = .ok (.aload_n 0, 1) := by decide +kernel
theorem d_M_settle_27 : decode prog_14_method_29_code 27 = .ok (.aload_n 0, 1) := by decide +kernel
theorem d_M_settle_31 : decode prog_14_method_29_code 31 = .ok (.iconst 1, 1) := by decide +kernel
theorem d_M_settle_32 : decode prog_14_method_29_code 32 = .ok (.isub, 1) := by decide +kernel
theorem d_M_settle_34 : decode prog_14_method_29_code 34 = .ok (.bipush 124, 2) := by decide +kernel
theorem d_M_settle_39 : decode prog_14_method_29_code 39 = .ok (.iload_n 1, 1) := by decide +kernel
theorem d_M_settle_40 : decode prog_14_method_29_code 40 = .ok (.bipush 38, 2) := by decide +kernel
theorem d_M_settle_42 : decode prog_14_method_29_code 42 = .ok (.if_icmp .eq 30, 3) := by decide +kernel
theorem d_M_settle_36 : decode prog_14_method_29_code 36 = .ok (.if_icmp .ne 36, 3) := by decide +kernel
theorem d_M_settle_28 : decode prog_14_method_29_code 28 = .ok (.getfield 80, 3) := by decide +kernel
theorem d_M_settle_24 : decode prog_14_method_29_code 24 = .ok (.getfield 74, 3) := by decide +kernel
theorem d_M_settle_20 : decode prog_14_method_29_code 20 = .ok (.if_icmp .eq 25, 3) := by decide +kernel
theorem d_M_settle_45 : decode prog_14_method_29_code 45 = .ok (.aload_n 0, 1) := by decide +kernel
theorem d_M_settle_46 : decode prog_14_method_29_code 46 = .ok (.dup, 1) := by decide +kernel
theorem d_M_settle_50 : decode prog_14_method_29_code 50 = .ok (.iconst 1, 1) := by decide +kernel
theorem d_M_settle_51 : decode prog_14_method_29_code 51 = .ok (.isub, 1) := by decide +kernel
theorem d_M_settle_55 : decode prog_14_method_29_code 55 = .ok (.aload_n 0, 1) := by decide +kernel
theorem d_M_settle_56 : decode prog_14_method_29_code 56 = .ok (.aload_n 0, 1) := by decide +kernel
theorem d_M_settle_60 : decode prog_14_method_29_code 60 = .ok (.aload_n 0, 1) := by decide +kernel
theorem d_M_settle_65 : decode prog_14_method_29_code 65 = .ok (.ineg, 1) := by decide +kernel
theorem d_M_settle_66 : decode prog_14_method_29_code 66 = .ok (.invokevirtual 265, 3) := by decide +kernel
theorem d_M_settle_69 : decode prog_14_method_29_code 69 = .ok (.goto (-69), 3) := by decide +kernel
theorem d_M_settle_61 : decode prog_14_method_29_code 61 = .ok (.getfield 80, 3) := by decide +kernel
theorem d_M_settle_57 : decode prog_14_method_29_code 57 = .ok (.getfield 74, 3) := by decide +kernel
theorem d_M_settle_47 : decode prog_14_method_29_code 47 = .ok (.getfield 80, 3) := by decide +kernel
theorem d_M_settle_12 : decode prog_14_method_29_code 12 = .ok (.getfield 80, 3) := by decide +kernel
theorem d_M_settle_8 : decode prog_14_method_29_code 8 = .ok (.getfield 74, 3) := by decide +kernel
theorem d_M_settle_4 : decode prog_14_method_29_code 4 = .ok (.ifCond .le 68, 3) := by decide +kernel
theorem d_M_settle_1 : decode prog_14_method_29_code 1 = .ok (.getfield 80, 3) := by decide +kernel
theorem d_M_settle_17 : decode prog_14_method_29_code 17 = .ok (.iaload, 1) := by decide +kernel
theorem d_M_settle_52 : decode prog_14_method_29_code 52 = .ok (.putfield 80, 3) := by decide +kernel
theorem d_M_settle_64 : decode prog_14_method_29_code 64 = .ok (.iaload, 1) := by decide +kernel
theorem d_M_settle_33 : decode prog_14_method_29_code 33 = .ok (.iaload, 1) := by decide +kernel
set_option maxRecDepth 10000 in
set_option maxHeartbeats 4000000 in
theorem W_M_settle_0 {q : QT} {z : ZT} {ν : Ml} {f7 : Int32} {k : Mm → Option (Mm)} (C : Ctx sdM q z prog_14_method_29_code "BesideTomModel" 2 1 none) (hk : ∀ (me_ : Mm), R sdM q z 2 (φVm ν) (k me_) me_ ν 72 [] []) : ∀ (n : Nat) (μ8 : Mm), R sdM q z 2 (φVm ν) (L_M_settle_0 f7 k n μ8) μ8 ν 0 [(0, .ref (q.2.2.1 0)), (1, .int f7)] [] := by
  intro n
  induction n with
  | zero =>
    intros
    exact R_none
  | succ n ih =>
    intro μ8
    rw [L_M_settle_0]
    refine R_aload_n C 0 d_M_settle_0 rfl rfl ?_
    refine gf_M_waiting C fl_M_80 d_M_settle_1 ?_
    refine R_if_le C d_M_settle_4 (tgt := 72) (by decide) ?_ ?_
    · skip
      exact R_sub [] rfl (hk μ8)
    · skip
      refine R_aload_n C 0 d_M_settle_7 rfl rfl ?_
      refine gf_M_waits C fl_M_74 d_M_settle_8 ?_
      refine R_aload_n C 0 d_M_settle_11 rfl rfl ?_
      refine gf_M_waiting C fl_M_80 d_M_settle_12 ?_
      refine R_iconst C d_M_settle_15 (v := 1) (by decide +kernel) ?_
      refine R_isub C d_M_settle_16 ?_
      refine R_iald C mm_21 (mc_21 q _ _) d_M_settle_17 (fun v9 => ?_)
      refine R_bipush C d_M_settle_18 (v := 38) (by decide +kernel) ?_
      refine R_jn (fun K15 => R sdM q z 2 (φVm ν) (K15 ()) μ8 ν 45 [(0, .ref (q.2.2.1 0)), (1, .int f7)] []) ?_ (fun K15 hK15 => ?_)
      · skip
        refine R_aload_n C 0 d_M_settle_45 rfl rfl ?_
        refine R_dup C d_M_settle_46 rfl ?_
        refine gf_M_waiting C fl_M_80 d_M_settle_47 ?_
        refine R_iconst C d_M_settle_50 (v := 1) (by decide +kernel) ?_
        refine R_isub C d_M_settle_51 ?_
        refine pf_M_waiting C fl_M_80 d_M_settle_52 (fun μ11 => ?_)
        refine R_aload_n C 0 d_M_settle_55 rfl rfl ?_
        refine R_aload_n C 0 d_M_settle_56 rfl rfl ?_
        refine gf_M_waits C fl_M_74 d_M_settle_57 ?_
        refine R_aload_n C 0 d_M_settle_60 rfl rfl ?_
        refine gf_M_waiting C fl_M_80 d_M_settle_61 ?_
        refine R_iald C mm_21 (mc_21 q _ _) d_M_settle_64 (fun v12 => ?_)
        refine R_ineg C d_M_settle_65 ?_
        refine R_bind (fun μ13 h14 => ?_)
        refine R_callV C mm_0 (mc_0 q _ _) rfl cf_M_emits rfl ml_M_265 im_M_emits sl_M_M_emits_M_emits (c_M_emits (gk C) h14) (by decide) (by decide) rfl rfl (Nat.le_of_ble_eq_true rfl) d_M_settle_66 ?_
        refine R_goto C d_M_settle_69 (tgt := 0) (by decide) ?_
        exact R_sub [0, 1] rfl (ih μ13)
      · skip
        refine R_icmp_eq C d_M_settle_20 (tgt := 45) (by decide) ?_ ?_
        · skip
          exact R_sub [0, 1] rfl (hK15)
        · skip
          refine R_aload_n C 0 d_M_settle_23 rfl rfl ?_
          refine gf_M_waits C fl_M_74 d_M_settle_24 ?_
          refine R_aload_n C 0 d_M_settle_27 rfl rfl ?_
          refine gf_M_waiting C fl_M_80 d_M_settle_28 ?_
          refine R_iconst C d_M_settle_31 (v := 1) (by decide +kernel) ?_
          refine R_isub C d_M_settle_32 ?_
          refine R_iald C mm_21 (mc_21 q _ _) d_M_settle_33 (fun v10 => ?_)
          refine R_bipush C d_M_settle_34 (v := 124) (by decide +kernel) ?_
          refine R_icmp_ne C d_M_settle_36 (tgt := 72) (by decide) ?_ ?_
          · skip
            exact R_sub [] rfl (hk μ8)
          · skip
            refine R_iload_n C 1 d_M_settle_39 rfl rfl ?_
            refine R_bipush C d_M_settle_40 (v := 38) (by decide +kernel) ?_
            refine R_icmp_eq C d_M_settle_42 (tgt := 72) (by decide) ?_ ?_
            · skip
              exact R_sub [] rfl (hk μ8)
            · skip
              exact R_sub [0, 1] rfl (hK15)
set_option maxRecDepth 10000 in
set_option maxHeartbeats 4000000 in
theorem w_M_settle {q : QT} {z : ZT} {a1 : Int32} {μ : Mm} {ν : Ml} (C : Ctx sdM q z prog_14_method_29_code "BesideTomModel" 2 1 none) : R sdM q z 2 (φVm ν) (F_M_settle a1 μ) μ ν 0 [(0, .ref (q.2.2.1 0)), (1, .int a1)] [] := by
  unfold F_M_settle
  refine R_aload_n C 0 d_M_settle_0 rfl rfl ?_
  refine gf_M_waiting C fl_M_80 d_M_settle_1 ?_
  refine R_if_le C d_M_settle_4 (tgt := 72) (by decide) ?_ ?_
  · skip
    exact R_vret C rfl d_M_settle_72
  · skip
    refine R_aload_n C 0 d_M_settle_7 rfl rfl ?_
    refine gf_M_waits C fl_M_74 d_M_settle_8 ?_
    refine R_aload_n C 0 d_M_settle_11 rfl rfl ?_
    refine gf_M_waiting C fl_M_80 d_M_settle_12 ?_
    refine R_iconst C d_M_settle_15 (v := 1) (by decide +kernel) ?_
    refine R_isub C d_M_settle_16 ?_
    refine R_iald C mm_21 (mc_21 q _ _) d_M_settle_17 (fun v1 => ?_)
    refine R_bipush C d_M_settle_18 (v := 38) (by decide +kernel) ?_
    refine R_jn (fun K17 => R sdM q z 2 (φVm ν) (K17 ()) μ ν 45 [(0, .ref (q.2.2.1 0)), (1, .int a1)] []) ?_ (fun K17 hK17 => ?_)
    · skip
      refine R_aload_n C 0 d_M_settle_45 rfl rfl ?_
      refine R_dup C d_M_settle_46 rfl ?_
      refine gf_M_waiting C fl_M_80 d_M_settle_47 ?_
      refine R_iconst C d_M_settle_50 (v := 1) (by decide +kernel) ?_
      refine R_isub C d_M_settle_51 ?_
      refine pf_M_waiting C fl_M_80 d_M_settle_52 (fun μ3 => ?_)
      refine R_aload_n C 0 d_M_settle_55 rfl rfl ?_
      refine R_aload_n C 0 d_M_settle_56 rfl rfl ?_
      refine gf_M_waits C fl_M_74 d_M_settle_57 ?_
      refine R_aload_n C 0 d_M_settle_60 rfl rfl ?_
      refine gf_M_waiting C fl_M_80 d_M_settle_61 ?_
      refine R_iald C mm_21 (mc_21 q _ _) d_M_settle_64 (fun v4 => ?_)
      refine R_ineg C d_M_settle_65 ?_
      refine R_bind (fun μ5 h6 => ?_)
      refine R_callV C mm_0 (mc_0 q _ _) rfl cf_M_emits rfl ml_M_265 im_M_emits sl_M_M_emits_M_emits (c_M_emits (gk C) h6) (by decide) (by decide) rfl rfl (Nat.le_of_ble_eq_true rfl) d_M_settle_66 ?_
      refine R_goto C d_M_settle_69 (tgt := 0) (by decide) ?_
      refine R_sub [0, 1] rfl ?_
      refine W_M_settle_0 C ?_ fu _
      intro μ16
      exact R_vret C rfl d_M_settle_72
    · skip
      refine R_icmp_eq C d_M_settle_20 (tgt := 45) (by decide) ?_ ?_
      · skip
        exact R_sub [0, 1] rfl (hK17)
      · skip
        refine R_aload_n C 0 d_M_settle_23 rfl rfl ?_
        refine gf_M_waits C fl_M_74 d_M_settle_24 ?_
        refine R_aload_n C 0 d_M_settle_27 rfl rfl ?_
        refine gf_M_waiting C fl_M_80 d_M_settle_28 ?_
        refine R_iconst C d_M_settle_31 (v := 1) (by decide +kernel) ?_
        refine R_isub C d_M_settle_32 ?_
        refine R_iald C mm_21 (mc_21 q _ _) d_M_settle_33 (fun v2 => ?_)
        refine R_bipush C d_M_settle_34 (v := 124) (by decide +kernel) ?_
        refine R_icmp_ne C d_M_settle_36 (tgt := 72) (by decide) ?_ ?_
        · skip
          exact R_vret C rfl d_M_settle_72
        · skip
          refine R_iload_n C 1 d_M_settle_39 rfl rfl ?_
          refine R_bipush C d_M_settle_40 (v := 38) (by decide +kernel) ?_
          refine R_icmp_eq C d_M_settle_42 (tgt := 72) (by decide) ?_ ?_
          · skip
            exact R_vret C rfl d_M_settle_72
          · skip
            exact R_sub [0, 1] rfl (hK17)
theorem c_M_settle {q : QT} (hg : GOk sdM q) {a1 : Int32} {μ : Mm} {ν : Ml} {o : Mm} (ho : F_M_settle a1 μ = some o) : Ct sdM q y_M_settle prog_14_method_29_code 2 none 1 [.ref (q.2.2.1 0), .int a1] μ ν ((φVm ν) o).1 ((φVm ν) o).2.1 ((φVm ν) o).2.2 := Ct_of rfl hg (fun z C => w_M_settle C) (Nat.le_of_ble_eq_true rfl) ho
def F_M_takes (a1 : Int32) (μ : Mm) : Option (Int32 × Mm) := (F_M_next μ).bind fun v1 => (if v1 = a1 then lt_ (up2 μ 0 12 ((μ 0 12) + 1)) fun μ3 => some (1, μ3) else some (0, μ))
theorem d_M_takes_0 : decode prog_14_method_23_code 0 = .ok (.aload_n 0, 1) := by decide +kernel
theorem d_M_takes_1 : decode prog_14_method_23_code 1 = .ok (.invokevirtual 255, 3) := by decide +kernel
theorem d_M_takes_4 : decode prog_14_method_23_code 4 = .ok (.iload_n 1, 1) := by decide +kernel
theorem d_M_takes_10 : decode prog_14_method_23_code 10 = .ok (.aload_n 0, 1) := by decide +kernel
theorem d_M_takes_11 : decode prog_14_method_23_code 11 = .ok (.dup, 1) := by decide +kernel
theorem d_M_takes_15 : decode prog_14_method_23_code 15 = .ok (.iconst 1, 1) := by decide +kernel
theorem d_M_takes_16 : decode prog_14_method_23_code 16 = .ok (.iadd, 1) := by decide +kernel
theorem d_M_takes_20 : decode prog_14_method_23_code 20 = .ok (.iconst 1, 1) := by decide +kernel
theorem d_M_takes_21 : decode prog_14_method_23_code 21 = .ok (.ireturn, 1) := by decide +kernel
theorem d_M_takes_12 : decode prog_14_method_23_code 12 = .ok (.getfield 47, 3) := by decide +kernel
theorem d_M_takes_8 : decode prog_14_method_23_code 8 = .ok (.iconst 0, 1) := by decide +kernel
theorem d_M_takes_9 : decode prog_14_method_23_code 9 = .ok (.ireturn, 1) := by decide +kernel
theorem d_M_takes_5 : decode prog_14_method_23_code 5 = .ok (.if_icmp .eq 5, 3) := by decide +kernel
theorem d_M_takes_17 : decode prog_14_method_23_code 17 = .ok (.putfield 47, 3) := by decide +kernel
set_option maxRecDepth 10000 in
set_option maxHeartbeats 4000000 in
theorem w_M_takes {q : QT} {z : ZT} {a1 : Int32} {μ : Mm} {ν : Ml} (C : Ctx sdM q z prog_14_method_23_code "BesideTomModel" 2 1 (some (FieldType.boolean))) : R sdM q z 2 (φIm ν) (F_M_takes a1 μ) μ ν 0 [(0, .ref (q.2.2.1 0)), (1, .int a1)] [] := by
  unfold F_M_takes
  refine R_aload_n C 0 d_M_takes_0 rfl rfl ?_
  refine R_bind (fun v1 h2 => ?_)
  refine R_callV C mm_0 (mc_0 q _ _) rfl cf_M_next rfl ml_M_255 im_M_next sl_M_M_next_M_next (c_M_next (gk C) h2) (by decide) (by decide) rfl rfl (Nat.le_of_ble_eq_true rfl) d_M_takes_1 ?_
  refine R_iload_n C 1 d_M_takes_4 rfl rfl ?_
  refine R_icmp_eq C d_M_takes_5 (tgt := 10) (by decide) ?_ ?_
  · skip
    refine R_aload_n C 0 d_M_takes_10 rfl rfl ?_
    refine R_dup C d_M_takes_11 rfl ?_
    refine gf_M_at C fl_M_47 d_M_takes_12 ?_
    refine R_iconst C d_M_takes_15 (v := 1) (by decide +kernel) ?_
    refine R_iadd C d_M_takes_16 ?_
    refine pf_M_at C fl_M_47 d_M_takes_17 (fun μ3 => ?_)
    refine R_iconst C d_M_takes_20 (v := 1) (by decide +kernel) ?_
    exact R_zret C (by decide) rfl d_M_takes_21
  · skip
    refine R_iconst C d_M_takes_8 (v := 0) (by decide +kernel) ?_
    exact R_zret C (by decide) rfl d_M_takes_9
theorem c_M_takes {q : QT} (hg : GOk sdM q) {a1 : Int32} {μ : Mm} {ν : Ml} {o : Int32 × Mm} (ho : F_M_takes a1 μ = some o) : Ct sdM q y_M_takes prog_14_method_23_code 2 (some (FieldType.boolean)) 1 [.ref (q.2.2.1 0), .int a1] μ ν ((φIm ν) o).1 ((φIm ν) o).2.1 ((φIm ν) o).2.2 := Ct_of rfl hg (fun z C => w_M_takes C) (Nat.le_of_ble_eq_true rfl) ho
def F_M_takesDesk (a1 : Int32) (a2 : Int32) (μ : Mm) : Option (Mm) := (F_M_whoHas a2 μ).bind fun v1 => jn (α := Mm) (fun K7 => (if v1 < 0 then K7 μ else (rdI (μ 6) 6 a1).bind fun v3 => (wrI μ 6 6 v1 v3).bind fun μ4 => K7 μ4)) (fun (μ5 : Mm) => (wrI μ5 6 6 a1 a2).bind fun μ6 => some μ6)
theorem d_M_takesDesk_0 : decode prog_14_method_17_code 0 = .ok (.aload_n 0, 1) := by decide +kernel
theorem d_M_takesDesk_1 : decode prog_14_method_17_code 1 = .ok (.iload_n 2, 1) := by decide +kernel
theorem d_M_takesDesk_2 : decode prog_14_method_17_code 2 = .ok (.invokevirtual 229, 3) := by decide +kernel
theorem d_M_takesDesk_5 : decode prog_14_method_17_code 5 = .ok (.istore_n 3, 1) := by decide +kernel
theorem d_M_takesDesk_6 : decode prog_14_method_17_code 6 = .ok (.iload_n 3, 1) := by decide +kernel
theorem d_M_takesDesk_10 : decode prog_14_method_17_code 10 = .ok (.aload_n 0, 1) := by decide +kernel
theorem d_M_takesDesk_14 : decode prog_14_method_17_code 14 = .ok (.iload_n 3, 1) := by decide +kernel
theorem d_M_takesDesk_15 : decode prog_14_method_17_code 15 = .ok (.aload_n 0, 1) := by decide +kernel
theorem d_M_takesDesk_19 : decode prog_14_method_17_code 19 = .ok (.iload_n 1, 1) := by decide +kernel
theorem d_M_takesDesk_21 : decode prog_14_method_17_code 21 = .ok (.iastore, 1) := by decide +kernel
theorem d_M_takesDesk_16 : decode prog_14_method_17_code 16 = .ok (.getfield 29, 3) := by decide +kernel
theorem d_M_takesDesk_11 : decode prog_14_method_17_code 11 = .ok (.getfield 29, 3) := by decide +kernel
theorem d_M_takesDesk_7 : decode prog_14_method_17_code 7 = .ok (.ifCond .lt 15, 3) := by decide +kernel
theorem d_M_takesDesk_22 : decode prog_14_method_17_code 22 = .ok (.aload_n 0, 1) := by decide +kernel
theorem d_M_takesDesk_26 : decode prog_14_method_17_code 26 = .ok (.iload_n 1, 1) := by decide +kernel
theorem d_M_takesDesk_27 : decode prog_14_method_17_code 27 = .ok (.iload_n 2, 1) := by decide +kernel
theorem d_M_takesDesk_29 : decode prog_14_method_17_code 29 = .ok (.return_, 1) := by decide +kernel
theorem d_M_takesDesk_28 : decode prog_14_method_17_code 28 = .ok (.iastore, 1) := by decide +kernel
theorem d_M_takesDesk_23 : decode prog_14_method_17_code 23 = .ok (.getfield 29, 3) := by decide +kernel
theorem d_M_takesDesk_20 : decode prog_14_method_17_code 20 = .ok (.iaload, 1) := by decide +kernel
set_option maxRecDepth 10000 in
set_option maxHeartbeats 4000000 in
theorem w_M_takesDesk {q : QT} {z : ZT} {a1 : Int32} {a2 : Int32} {μ : Mm} {ν : Ml} (C : Ctx sdM q z prog_14_method_17_code "BesideTomModel" 4 1 none) : R sdM q z 4 (φVm ν) (F_M_takesDesk a1 a2 μ) μ ν 0 [(0, .ref (q.2.2.1 0)), (1, .int a1), (2, .int a2)] [] := by
  unfold F_M_takesDesk
  refine R_aload_n C 0 d_M_takesDesk_0 rfl rfl ?_
  refine R_iload_n C 2 d_M_takesDesk_1 rfl rfl ?_
  refine R_bind (fun v1 h2 => ?_)
  refine R_callV C mm_0 (mc_0 q _ _) rfl cf_M_whoHas rfl ml_M_229 im_M_whoHas sl_M_M_whoHas_M_whoHas (c_M_whoHas (gk C) h2) (by decide) (by decide) rfl rfl (Nat.le_of_ble_eq_true rfl) d_M_takesDesk_2 ?_
  refine R_istore_n C (lv' := [(3, .int v1), (0, .ref (q.2.2.1 0)), (1, .int a1), (2, .int a2)]) d_M_takesDesk_5 rfl (by decide) rfl ?_
  refine R_iload_n C 0 d_M_takesDesk_6 rfl rfl ?_
  refine R_jn (fun K7 => ∀ (μ5 : Mm), R sdM q z 4 (φVm ν) (K7 μ5) μ5 ν 22 [(0, .ref (q.2.2.1 0)), (1, .int a1), (2, .int a2)] []) ?_ (fun K7 hK7 => ?_)
  · intro μ5
    refine R_aload_n C 0 d_M_takesDesk_22 rfl rfl ?_
    refine gf_M_desk C fl_M_29 d_M_takesDesk_23 ?_
    refine R_iload_n C 1 d_M_takesDesk_26 rfl rfl ?_
    refine R_iload_n C 2 d_M_takesDesk_27 rfl rfl ?_
    refine R_iast C mm_6 (fun h => mc_6 q h _) d_M_takesDesk_28 (fun μ6 => ?_)
    exact R_vret C rfl d_M_takesDesk_29
  · skip
    refine R_if_lt C d_M_takesDesk_7 (tgt := 22) (by decide) ?_ ?_
    · skip
      exact R_sub [1, 2, 3] rfl (hK7 μ)
    · skip
      refine R_aload_n C 1 d_M_takesDesk_10 rfl rfl ?_
      refine gf_M_desk C fl_M_29 d_M_takesDesk_11 ?_
      refine R_iload_n C 0 d_M_takesDesk_14 rfl rfl ?_
      refine R_aload_n C 1 d_M_takesDesk_15 rfl rfl ?_
      refine gf_M_desk C fl_M_29 d_M_takesDesk_16 ?_
      refine R_iload_n C 2 d_M_takesDesk_19 rfl rfl ?_
      refine R_iald C mm_6 (mc_6 q _ _) d_M_takesDesk_20 (fun v3 => ?_)
      refine R_iast C mm_6 (fun h => mc_6 q h _) d_M_takesDesk_21 (fun μ4 => ?_)
      exact R_sub [1, 2, 3] rfl (hK7 μ4)
theorem c_M_takesDesk {q : QT} (hg : GOk sdM q) {a1 : Int32} {a2 : Int32} {μ : Mm} {ν : Ml} {o : Mm} (ho : F_M_takesDesk a1 a2 μ = some o) : Ct sdM q y_M_takesDesk prog_14_method_17_code 4 none 1 [.ref (q.2.2.1 0), .int a1, .int a2] μ ν ((φVm ν) o).1 ((φVm ν) o).2.1 ((φVm ν) o).2.2 := Ct_of rfl hg (fun z C => w_M_takesDesk C) (Nat.le_of_ble_eq_true rfl) ho
def F_M_trace (a1 : Int32) (μ : Mm) : Option (Int32) := (F_M_in a1 0 19).bind fun v1 => (if v1 = 0 then some (-1) else (if (μ 0 63) ≤ a1 then some (-1) else (rdI (μ 64) 20 a1).bind fun v3 => some v3))
theorem d_M_trace_0 : decode prog_14_method_101_code 0 = .ok (.aload_n 0, 1) := by decide +kernel
theorem d_M_trace_1 : decode prog_14_method_101_code 1 = .ok (.iload_n 1, 1) := by decide +kernel
theorem d_M_trace_2 : decode prog_14_method_101_code 2 = .ok (.iconst 0, 1) := by decide +kernel
theorem d_M_trace_3 : decode prog_14_method_101_code 3 = .ok (.bipush 19, 2) := by decide +kernel
theorem d_M_trace_5 : decode prog_14_method_101_code 5 = .ok (.invokevirtual 225, 3) := by decide +kernel
theorem d_M_trace_28 : decode prog_14_method_101_code 28 = .ok (.iconst (-1), 1) := by decide +kernel
theorem d_M_trace_29 : decode prog_14_method_101_code 29 = .ok (.ireturn, 1) := by decide +kernel
theorem d_M_trace_11 : decode prog_14_method_101_code 11 = .ok (.iload_n 1, 1) := by decide +kernel
theorem d_M_trace_12 : decode prog_14_method_101_code 12 = .ok (.aload_n 0, 1) := by decide +kernel
theorem d_M_trace_19 : decode prog_14_method_101_code 19 = .ok (.aload_n 0, 1) := by decide +kernel
theorem d_M_trace_23 : decode prog_14_method_101_code 23 = .ok (.iload_n 1, 1) := by decide +kernel
theorem d_M_trace_25 : decode prog_14_method_101_code 25 = .ok (.goto 4, 3) := by decide +kernel
theorem d_M_trace_20 : decode prog_14_method_101_code 20 = .ok (.getfield 205, 3) := by decide +kernel
theorem d_M_trace_16 : decode prog_14_method_101_code 16 = .ok (.if_icmp .ge 12, 3) := by decide +kernel
theorem d_M_trace_13 : decode prog_14_method_101_code 13 = .ok (.getfield 202, 3) := by decide +kernel
theorem d_M_trace_8 : decode prog_14_method_101_code 8 = .ok (.ifCond .eq 20, 3) := by decide +kernel
theorem d_M_trace_24 : decode prog_14_method_101_code 24 = .ok (.iaload, 1) := by decide +kernel
set_option maxRecDepth 10000 in
set_option maxHeartbeats 4000000 in
theorem w_M_trace {q : QT} {z : ZT} {a1 : Int32} {μ : Mm} {ν : Ml} (C : Ctx sdM q z prog_14_method_101_code "BesideTomModel" 2 1 (some (FieldType.int))) : R sdM q z 2 (φI μ ν) (F_M_trace a1 μ) μ ν 0 [(0, .ref (q.2.2.1 0)), (1, .int a1)] [] := by
  unfold F_M_trace
  refine R_aload_n C 0 d_M_trace_0 rfl rfl ?_
  refine R_iload_n C 1 d_M_trace_1 rfl rfl ?_
  refine R_iconst C d_M_trace_2 (v := 0) (by decide +kernel) ?_
  refine R_bipush C d_M_trace_3 (v := 19) (by decide +kernel) ?_
  refine R_bind (fun v1 h2 => ?_)
  refine R_callV C mm_0 (mc_0 q _ _) rfl cf_M_in rfl ml_M_225 im_M_in sl_M_M_in_M_in (c_M_in (gk C) h2) (by decide) (by decide) rfl rfl (Nat.le_of_ble_eq_true rfl) d_M_trace_5 ?_
  refine R_if_eq C d_M_trace_8 (tgt := 28) (by decide) ?_ ?_
  · skip
    refine R_iconst C d_M_trace_28 (v := (-1)) (by decide +kernel) ?_
    exact R_iret C rfl d_M_trace_29
  · skip
    refine R_iload_n C 1 d_M_trace_11 rfl rfl ?_
    refine R_aload_n C 0 d_M_trace_12 rfl rfl ?_
    refine gf_M_ran C fl_M_202 d_M_trace_13 ?_
    refine R_icmp_ge C d_M_trace_16 (tgt := 28) (by decide) ?_ ?_
    · skip
      refine R_iconst C d_M_trace_28 (v := (-1)) (by decide +kernel) ?_
      exact R_iret C rfl d_M_trace_29
    · skip
      refine R_aload_n C 0 d_M_trace_19 rfl rfl ?_
      refine gf_M_bodies C fl_M_205 d_M_trace_20 ?_
      refine R_iload_n C 1 d_M_trace_23 rfl rfl ?_
      refine R_iald C mm_64 (mc_64 q _ _) d_M_trace_24 (fun v3 => ?_)
      refine R_goto C d_M_trace_25 (tgt := 29) (by decide) ?_
      exact R_iret C rfl d_M_trace_29
theorem c_M_trace {q : QT} (hg : GOk sdM q) {a1 : Int32} {μ : Mm} {ν : Ml} {o : Int32} (ho : F_M_trace a1 μ = some o) : Ct sdM q y_M_trace prog_14_method_101_code 2 (some (FieldType.int)) 1 [.ref (q.2.2.1 0), .int a1] μ ν ((φI μ ν) o).1 ((φI μ ν) o).2.1 ((φI μ ν) o).2.2 := Ct_of rfl hg (fun z C => w_M_trace C) (Nat.le_of_ble_eq_true rfl) ho
def L_M_whole_0 (k : Mm → Option (Mm)) : Nat → Mm → Option (Mm)
  | 0, _ => none
  | n + 1, μ6 => (if (μ6 0 23) ≤ 0 then k μ6 else (rdI (μ6 21) 101 ((μ6 0 23) - 1)).bind fun v7 => (if v7 = 33 then (F_M_emits (-33) μ6).bind fun μ8 => lt_ (up2 μ8 0 23 ((μ8 0 23) - 1)) fun μ10 => lt_ (up2 μ10 0 24 ((μ10 0 24) - 1)) fun μ11 => L_M_whole_0 k n μ11 else k μ6))
def F_M_whole (μ : Mm) : Option (Mm) := (if (μ 0 23) ≤ 0 then some μ else (rdI (μ 21) 101 ((μ 0 23) - 1)).bind fun v1 => (if v1 = 33 then (F_M_emits (-33) μ).bind fun μ2 => lt_ (up2 μ2 0 23 ((μ2 0 23) - 1)) fun μ4 => lt_ (up2 μ4 0 24 ((μ4 0 24) - 1)) fun μ5 => L_M_whole_0 (fun (μ12 : Mm) => some μ12) fu μ5 else some μ))
theorem d_M_whole_0 : decode prog_14_method_28_code 0 = .ok (.aload_n 0, 1) := by decide +kernel
theorem d_M_whole_52 : decode prog_14_method_28_code 52 = .ok (.return_, 1) := by decide +kernel
theorem d_M_whole_7 : decode prog_14_method_28_code 7 = .ok (.aload_n 0, 1) := by decide +kernel
theorem d_M_whole_11 : decode prog_14_method_28_code 11 = .ok (.aload_n 0, 1) := by decide +kernel
theorem d_M_whole_15 : decode prog_14_method_28_code 15 = .ok (.iconst 1, 1) := by decide +kernel
theorem d_M_whole_16 : decode prog_14_method_28_code 16 = .ok (.isub, 1) := by decide +kernel
theorem d_M_whole_18 : decode prog_14_method_28_code 18 = .ok (.bipush 33, 2) := by decide +kernel
theorem d_M_whole_23 : decode prog_14_method_28_code 23 = .ok (.aload_n 0, 1) := by decide +kernel
theorem d_M_whole_24 : decode prog_14_method_28_code 24 = .ok (.bipush (-33), 2) := by decide +kernel
theorem d_M_whole_26 : decode prog_14_method_28_code 26 = .ok (.invokevirtual 265, 3) := by decide +kernel
theorem d_M_whole_29 : decode prog_14_method_28_code 29 = .ok (.aload_n 0, 1) := by decide +kernel
theorem d_M_whole_30 : decode prog_14_method_28_code 30 = .ok (.dup, 1) := by decide +kernel
theorem d_M_whole_34 : decode prog_14_method_28_code 34 = .ok (.iconst 1, 1) := by decide +kernel
theorem d_M_whole_35 : decode prog_14_method_28_code 35 = .ok (.isub, 1) := by decide +kernel
theorem d_M_whole_39 : decode prog_14_method_28_code 39 = .ok (.aload_n 0, 1) := by decide +kernel
theorem d_M_whole_40 : decode prog_14_method_28_code 40 = .ok (.dup, 1) := by decide +kernel
theorem d_M_whole_44 : decode prog_14_method_28_code 44 = .ok (.iconst 1, 1) := by decide +kernel
theorem d_M_whole_45 : decode prog_14_method_28_code 45 = .ok (.isub, 1) := by decide +kernel
theorem d_M_whole_49 : decode prog_14_method_28_code 49 = .ok (.goto (-49), 3) := by decide +kernel
theorem d_M_whole_41 : decode prog_14_method_28_code 41 = .ok (.getfield 83, 3) := by decide +kernel
theorem d_M_whole_31 : decode prog_14_method_28_code 31 = .ok (.getfield 80, 3) := by decide +kernel
theorem d_M_whole_20 : decode prog_14_method_28_code 20 = .ok (.if_icmp .ne 32, 3) := by decide +kernel
theorem d_M_whole_12 : decode prog_14_method_28_code 12 = .ok (.getfield 80, 3) := by decide +kernel
theorem d_M_whole_8 : decode prog_14_method_28_code 8 = .ok (.getfield 74, 3) := by decide +kernel
theorem d_M_whole_4 : decode prog_14_method_28_code 4 = .ok (.ifCond .le 48, 3) := by decide +kernel
theorem d_M_whole_1 : decode prog_14_method_28_code 1 = .ok (.getfield 80, 3) := by decide +kernel
theorem d_M_whole_17 : decode prog_14_method_28_code 17 = .ok (.iaload, 1) := by decide +kernel
theorem d_M_whole_36 : decode prog_14_method_28_code 36 = .ok (.putfield 80, 3) := by decide +kernel
theorem d_M_whole_46 : decode prog_14_method_28_code 46 = .ok (.putfield 83, 3) := by decide +kernel
set_option maxRecDepth 10000 in
set_option maxHeartbeats 4000000 in
theorem W_M_whole_0 {q : QT} {z : ZT} {ν : Ml} {k : Mm → Option (Mm)} (C : Ctx sdM q z prog_14_method_28_code "BesideTomModel" 1 1 none) (hk : ∀ (me_ : Mm), R sdM q z 1 (φVm ν) (k me_) me_ ν 52 [] []) : ∀ (n : Nat) (μ6 : Mm), R sdM q z 1 (φVm ν) (L_M_whole_0 k n μ6) μ6 ν 0 [(0, .ref (q.2.2.1 0))] [] := by
  intro n
  induction n with
  | zero =>
    intros
    exact R_none
  | succ n ih =>
    intro μ6
    rw [L_M_whole_0]
    refine R_aload_n C 0 d_M_whole_0 rfl rfl ?_
    refine gf_M_waiting C fl_M_80 d_M_whole_1 ?_
    refine R_if_le C d_M_whole_4 (tgt := 52) (by decide) ?_ ?_
    · skip
      exact R_sub [] rfl (hk μ6)
    · skip
      refine R_aload_n C 0 d_M_whole_7 rfl rfl ?_
      refine gf_M_waits C fl_M_74 d_M_whole_8 ?_
      refine R_aload_n C 0 d_M_whole_11 rfl rfl ?_
      refine gf_M_waiting C fl_M_80 d_M_whole_12 ?_
      refine R_iconst C d_M_whole_15 (v := 1) (by decide +kernel) ?_
      refine R_isub C d_M_whole_16 ?_
      refine R_iald C mm_21 (mc_21 q _ _) d_M_whole_17 (fun v7 => ?_)
      refine R_bipush C d_M_whole_18 (v := 33) (by decide +kernel) ?_
      refine R_icmp_ne C d_M_whole_20 (tgt := 52) (by decide) ?_ ?_
      · skip
        exact R_sub [] rfl (hk μ6)
      · skip
        refine R_aload_n C 0 d_M_whole_23 rfl rfl ?_
        refine R_bipush C d_M_whole_24 (v := (-33)) (by decide +kernel) ?_
        refine R_bind (fun μ8 h9 => ?_)
        refine R_callV C mm_0 (mc_0 q _ _) rfl cf_M_emits rfl ml_M_265 im_M_emits sl_M_M_emits_M_emits (c_M_emits (gk C) h9) (by decide) (by decide) rfl rfl (Nat.le_of_ble_eq_true rfl) d_M_whole_26 ?_
        refine R_aload_n C 0 d_M_whole_29 rfl rfl ?_
        refine R_dup C d_M_whole_30 rfl ?_
        refine gf_M_waiting C fl_M_80 d_M_whole_31 ?_
        refine R_iconst C d_M_whole_34 (v := 1) (by decide +kernel) ?_
        refine R_isub C d_M_whole_35 ?_
        refine pf_M_waiting C fl_M_80 d_M_whole_36 (fun μ10 => ?_)
        refine R_aload_n C 0 d_M_whole_39 rfl rfl ?_
        refine R_dup C d_M_whole_40 rfl ?_
        refine gf_M_open C fl_M_83 d_M_whole_41 ?_
        refine R_iconst C d_M_whole_44 (v := 1) (by decide +kernel) ?_
        refine R_isub C d_M_whole_45 ?_
        refine pf_M_open C fl_M_83 d_M_whole_46 (fun μ11 => ?_)
        refine R_goto C d_M_whole_49 (tgt := 0) (by decide) ?_
        exact R_sub [0] rfl (ih μ11)
set_option maxRecDepth 10000 in
set_option maxHeartbeats 4000000 in
theorem w_M_whole {q : QT} {z : ZT} {μ : Mm} {ν : Ml} (C : Ctx sdM q z prog_14_method_28_code "BesideTomModel" 1 1 none) : R sdM q z 1 (φVm ν) (F_M_whole μ) μ ν 0 [(0, .ref (q.2.2.1 0))] [] := by
  unfold F_M_whole
  refine R_aload_n C 0 d_M_whole_0 rfl rfl ?_
  refine gf_M_waiting C fl_M_80 d_M_whole_1 ?_
  refine R_if_le C d_M_whole_4 (tgt := 52) (by decide) ?_ ?_
  · skip
    exact R_vret C rfl d_M_whole_52
  · skip
    refine R_aload_n C 0 d_M_whole_7 rfl rfl ?_
    refine gf_M_waits C fl_M_74 d_M_whole_8 ?_
    refine R_aload_n C 0 d_M_whole_11 rfl rfl ?_
    refine gf_M_waiting C fl_M_80 d_M_whole_12 ?_
    refine R_iconst C d_M_whole_15 (v := 1) (by decide +kernel) ?_
    refine R_isub C d_M_whole_16 ?_
    refine R_iald C mm_21 (mc_21 q _ _) d_M_whole_17 (fun v1 => ?_)
    refine R_bipush C d_M_whole_18 (v := 33) (by decide +kernel) ?_
    refine R_icmp_ne C d_M_whole_20 (tgt := 52) (by decide) ?_ ?_
    · skip
      exact R_vret C rfl d_M_whole_52
    · skip
      refine R_aload_n C 0 d_M_whole_23 rfl rfl ?_
      refine R_bipush C d_M_whole_24 (v := (-33)) (by decide +kernel) ?_
      refine R_bind (fun μ2 h3 => ?_)
      refine R_callV C mm_0 (mc_0 q _ _) rfl cf_M_emits rfl ml_M_265 im_M_emits sl_M_M_emits_M_emits (c_M_emits (gk C) h3) (by decide) (by decide) rfl rfl (Nat.le_of_ble_eq_true rfl) d_M_whole_26 ?_
      refine R_aload_n C 0 d_M_whole_29 rfl rfl ?_
      refine R_dup C d_M_whole_30 rfl ?_
      refine gf_M_waiting C fl_M_80 d_M_whole_31 ?_
      refine R_iconst C d_M_whole_34 (v := 1) (by decide +kernel) ?_
      refine R_isub C d_M_whole_35 ?_
      refine pf_M_waiting C fl_M_80 d_M_whole_36 (fun μ4 => ?_)
      refine R_aload_n C 0 d_M_whole_39 rfl rfl ?_
      refine R_dup C d_M_whole_40 rfl ?_
      refine gf_M_open C fl_M_83 d_M_whole_41 ?_
      refine R_iconst C d_M_whole_44 (v := 1) (by decide +kernel) ?_
      refine R_isub C d_M_whole_45 ?_
      refine pf_M_open C fl_M_83 d_M_whole_46 (fun μ5 => ?_)
      refine R_goto C d_M_whole_49 (tgt := 0) (by decide) ?_
      refine R_sub [0] rfl ?_
      refine W_M_whole_0 C ?_ fu _
      intro μ12
      exact R_vret C rfl d_M_whole_52
theorem c_M_whole {q : QT} (hg : GOk sdM q) {μ : Mm} {ν : Ml} {o : Mm} (ho : F_M_whole μ = some o) : Ct sdM q y_M_whole prog_14_method_28_code 1 none 1 [.ref (q.2.2.1 0)] μ ν ((φVm ν) o).1 ((φVm ν) o).2.1 ((φVm ν) o).2.2 := Ct_of rfl hg (fun z C => w_M_whole C) (Nat.le_of_ble_eq_true rfl) ho
def F_M_away (a1 : Int32) (a2 : Int32) (μ : Mm) : Option (Int32 × Mm) := (F_M_isPupil a1 μ).bind fun v1 => (if v1 = 0 then some ((-1), μ) else (F_M_has (μ 0 1) a1).bind fun v3 => jn (α := Int32) (fun K8 => (if v3 = 0 then K8 0 else K8 1)) (fun (j5 : Int32) => (F_M_goes a1 a2 μ).bind fun μ6 => some (j5, μ6)))
theorem d_M_away_0 : decode prog_14_method_14_code 0 = .ok (.aload_n 0, 1) := by decide +kernel
theorem d_M_away_1 : decode prog_14_method_14_code 1 = .ok (.iload_n 1, 1) := by decide +kernel
theorem d_M_away_2 : decode prog_14_method_14_code 2 = .ok (.invokevirtual 233, 3) := by decide +kernel
theorem d_M_away_10 : decode prog_14_method_14_code 10 = .ok (.aload_n 0, 1) := by decide +kernel
theorem d_M_away_11 : decode prog_14_method_14_code 11 = .ok (.aload_n 0, 1) := by decide +kernel
theorem d_M_away_15 : decode prog_14_method_14_code 15 = .ok (.iload_n 1, 1) := by decide +kernel
theorem d_M_away_16 : decode prog_14_method_14_code 16 = .ok (.invokevirtual 221, 3) := by decide +kernel
theorem d_M_away_26 : decode prog_14_method_14_code 26 = .ok (.iconst 0, 1) := by decide +kernel
theorem d_M_away_22 : decode prog_14_method_14_code 22 = .ok (.iconst 1, 1) := by decide +kernel
theorem d_M_away_23 : decode prog_14_method_14_code 23 = .ok (.goto 4, 3) := by decide +kernel
theorem d_M_away_19 : decode prog_14_method_14_code 19 = .ok (.ifCond .eq 7, 3) := by decide +kernel
theorem d_M_away_27 : decode prog_14_method_14_code 27 = .ok (.istore_n 3, 1) := by decide +kernel
theorem d_M_away_28 : decode prog_14_method_14_code 28 = .ok (.aload_n 0, 1) := by decide +kernel
theorem d_M_away_29 : decode prog_14_method_14_code 29 = .ok (.iload_n 1, 1) := by decide +kernel
theorem d_M_away_30 : decode prog_14_method_14_code 30 = .ok (.iload_n 2, 1) := by decide +kernel
theorem d_M_away_31 : decode prog_14_method_14_code 31 = .ok (.invokevirtual 237, 3) := by decide +kernel
theorem d_M_away_34 : decode prog_14_method_14_code 34 = .ok (.iload_n 3, 1) := by decide +kernel
theorem d_M_away_35 : decode prog_14_method_14_code 35 = .ok (.ireturn, 1) := by decide +kernel
theorem d_M_away_12 : decode prog_14_method_14_code 12 = .ok (.getfield 13, 3) := by decide +kernel
theorem d_M_away_8 : decode prog_14_method_14_code 8 = .ok (.iconst (-1), 1) := by decide +kernel
theorem d_M_away_9 : decode prog_14_method_14_code 9 = .ok (.ireturn, 1) := by decide +kernel
theorem d_M_away_5 : decode prog_14_method_14_code 5 = .ok (.ifCond .ne 5, 3) := by decide +kernel
set_option maxRecDepth 10000 in
set_option maxHeartbeats 4000000 in
theorem w_M_away {q : QT} {z : ZT} {a1 : Int32} {a2 : Int32} {μ : Mm} {ν : Ml} (C : Ctx sdM q z prog_14_method_14_code "BesideTomModel" 4 2 (some (FieldType.int))) : R sdM q z 4 (φIm ν) (F_M_away a1 a2 μ) μ ν 0 [(0, .ref (q.2.2.1 0)), (1, .int a1), (2, .int a2)] [] := by
  unfold F_M_away
  refine R_aload_n C 0 d_M_away_0 rfl rfl ?_
  refine R_iload_n C 1 d_M_away_1 rfl rfl ?_
  refine R_bind (fun v1 h2 => ?_)
  refine R_callV C mm_0 (mc_0 q _ _) rfl cf_M_isPupil rfl ml_M_233 im_M_isPupil sl_M_M_isPupil_M_isPupil (c_M_isPupil (gk C) h2) (by decide) (by decide) rfl rfl (Nat.le_of_ble_eq_true rfl) d_M_away_2 ?_
  refine R_if_ne C d_M_away_5 (tgt := 10) (by decide) ?_ ?_
  · skip
    refine R_aload_n C 0 d_M_away_10 rfl rfl ?_
    refine R_aload_n C 0 d_M_away_11 rfl rfl ?_
    refine gf_M_gone C fl_M_13 d_M_away_12 ?_
    refine R_iload_n C 1 d_M_away_15 rfl rfl ?_
    refine R_bind (fun v3 h4 => ?_)
    refine R_callV C mm_0 (mc_0 q _ _) rfl cf_M_has rfl ml_M_221 im_M_has sl_M_M_has_M_has (c_M_has (gk C) h4) (by decide) (by decide) rfl rfl (Nat.le_of_ble_eq_true rfl) d_M_away_16 ?_
    refine R_jn (fun K8 => ∀ (j5 : Int32), R sdM q z 4 (φIm ν) (K8 j5) μ ν 27 [(0, .ref (q.2.2.1 0)), (1, .int a1), (2, .int a2)] [.int j5]) ?_ (fun K8 hK8 => ?_)
    · intro j5
      refine R_istore_n C (lv' := [(3, .int j5), (0, .ref (q.2.2.1 0)), (1, .int a1), (2, .int a2)]) d_M_away_27 rfl (by decide) rfl ?_
      refine R_aload_n C 1 d_M_away_28 rfl rfl ?_
      refine R_iload_n C 2 d_M_away_29 rfl rfl ?_
      refine R_iload_n C 3 d_M_away_30 rfl rfl ?_
      refine R_bind (fun μ6 h7 => ?_)
      refine R_callV C mm_0 (mc_0 q _ _) rfl cf_M_goes rfl ml_M_237 im_M_goes sl_M_M_goes_M_goes (c_M_goes (gk C) h7) (by decide) (by decide) rfl rfl (Nat.le_of_ble_eq_true rfl) d_M_away_31 ?_
      refine R_iload_n C 0 d_M_away_34 rfl rfl ?_
      exact R_iret C rfl d_M_away_35
    · skip
      refine R_if_eq C d_M_away_19 (tgt := 26) (by decide) ?_ ?_
      · skip
        refine R_iconst C d_M_away_26 (v := 0) (by decide +kernel) ?_
        exact R_sub [0, 1, 2] rfl (hK8 0)
      · skip
        refine R_iconst C d_M_away_22 (v := 1) (by decide +kernel) ?_
        refine R_goto C d_M_away_23 (tgt := 27) (by decide) ?_
        exact R_sub [0, 1, 2] rfl (hK8 1)
  · skip
    refine R_iconst C d_M_away_8 (v := (-1)) (by decide +kernel) ?_
    exact R_iret C rfl d_M_away_9
theorem c_M_away {q : QT} (hg : GOk sdM q) {a1 : Int32} {a2 : Int32} {μ : Mm} {ν : Ml} {o : Int32 × Mm} (ho : F_M_away a1 a2 μ = some o) : Ct sdM q y_M_away prog_14_method_14_code 4 (some (FieldType.int)) 2 [.ref (q.2.2.1 0), .int a1, .int a2] μ ν ((φIm ν) o).1 ((φIm ν) o).2.1 ((φIm ν) o).2.2 := Ct_of rfl hg (fun z C => w_M_away C) (Nat.le_of_ble_eq_true rfl) ho
def F_M_book (a1 : Int32) (a2 : Int32) (μ : Mm) : Option (Int32 × Mm) := (if a1 = (-1) then lt_ (up2 μ 0 38 0) fun μ8 => some (0, μ8) else (F_M_isPupil a1 μ).bind fun v1 => (if v1 = 0 then some ((-1), μ) else (F_M_isDesk a2).bind fun v3 => (if v3 = 0 then some ((-1), μ) else (if (μ 0 38) = 8 then some ((-4), μ) else (wrI μ 41 8 (μ 0 38) a1).bind fun μ5 => (wrI μ5 42 8 (μ5 0 38) a2).bind fun μ6 => lt_ (up2 μ6 0 38 ((μ6 0 38) + 1)) fun μ7 => some ((μ7 0 38), μ7)))))
theorem d_M_book_0 : decode prog_14_method_87_code 0 = .ok (.iload_n 1, 1) := by decide +kernel
theorem d_M_book_1 : decode prog_14_method_87_code 1 = .ok (.iconst (-1), 1) := by decide +kernel
theorem d_M_book_12 : decode prog_14_method_87_code 12 = .ok (.aload_n 0, 1) := by decide +kernel
theorem d_M_book_13 : decode prog_14_method_87_code 13 = .ok (.iload_n 1, 1) := by decide +kernel
theorem d_M_book_14 : decode prog_14_method_87_code 14 = .ok (.invokevirtual 233, 3) := by decide +kernel
theorem d_M_book_28 : decode prog_14_method_87_code 28 = .ok (.iconst (-1), 1) := by decide +kernel
theorem d_M_book_29 : decode prog_14_method_87_code 29 = .ok (.ireturn, 1) := by decide +kernel
theorem d_M_book_20 : decode prog_14_method_87_code 20 = .ok (.aload_n 0, 1) := by decide +kernel
theorem d_M_book_21 : decode prog_14_method_87_code 21 = .ok (.iload_n 2, 1) := by decide +kernel
theorem d_M_book_22 : decode prog_14_method_87_code 22 = .ok (.invokevirtual 245, 3) := by decide +kernel
theorem d_M_book_30 : decode prog_14_method_87_code 30 = .ok (.aload_n 0, 1) := by decide +kernel
theorem d_M_book_34 : decode prog_14_method_87_code 34 = .ok (.bipush 8, 2) := by decide +kernel
theorem d_M_book_42 : decode prog_14_method_87_code 42 = .ok (.aload_n 0, 1) := by decide +kernel
theorem d_M_book_46 : decode prog_14_method_87_code 46 = .ok (.aload_n 0, 1) := by decide +kernel
theorem d_M_book_50 : decode prog_14_method_87_code 50 = .ok (.iload_n 1, 1) := by decide +kernel
theorem d_M_book_52 : decode prog_14_method_87_code 52 = .ok (.aload_n 0, 1) := by decide +kernel
theorem d_M_book_56 : decode prog_14_method_87_code 56 = .ok (.aload_n 0, 1) := by decide +kernel
theorem d_M_book_60 : decode prog_14_method_87_code 60 = .ok (.iload_n 2, 1) := by decide +kernel
theorem d_M_book_62 : decode prog_14_method_87_code 62 = .ok (.aload_n 0, 1) := by decide +kernel
theorem d_M_book_63 : decode prog_14_method_87_code 63 = .ok (.dup, 1) := by decide +kernel
theorem d_M_book_67 : decode prog_14_method_87_code 67 = .ok (.iconst 1, 1) := by decide +kernel
theorem d_M_book_68 : decode prog_14_method_87_code 68 = .ok (.iadd, 1) := by decide +kernel
theorem d_M_book_72 : decode prog_14_method_87_code 72 = .ok (.aload_n 0, 1) := by decide +kernel
theorem d_M_book_76 : decode prog_14_method_87_code 76 = .ok (.ireturn, 1) := by decide +kernel
theorem d_M_book_73 : decode prog_14_method_87_code 73 = .ok (.getfield 126, 3) := by decide +kernel
theorem d_M_book_64 : decode prog_14_method_87_code 64 = .ok (.getfield 126, 3) := by decide +kernel
theorem d_M_book_61 : decode prog_14_method_87_code 61 = .ok (.iastore, 1) := by decide +kernel
theorem d_M_book_57 : decode prog_14_method_87_code 57 = .ok (.getfield 126, 3) := by decide +kernel
theorem d_M_book_53 : decode prog_14_method_87_code 53 = .ok (.getfield 138, 3) := by decide +kernel
theorem d_M_book_51 : decode prog_14_method_87_code 51 = .ok (.iastore, 1) := by decide +kernel
theorem d_M_book_47 : decode prog_14_method_87_code 47 = .ok (.getfield 126, 3) := by decide +kernel
theorem d_M_book_43 : decode prog_14_method_87_code 43 = .ok (.getfield 135, 3) := by decide +kernel
theorem d_M_book_39 : decode prog_14_method_87_code 39 = .ok (.bipush (-4), 2) := by decide +kernel
theorem d_M_book_41 : decode prog_14_method_87_code 41 = .ok (.ireturn, 1) := by decide +kernel
theorem d_M_book_36 : decode prog_14_method_87_code 36 = .ok (.if_icmp .ne 6, 3) := by decide +kernel
theorem d_M_book_31 : decode prog_14_method_87_code 31 = .ok (.getfield 126, 3) := by decide +kernel
theorem d_M_book_25 : decode prog_14_method_87_code 25 = .ok (.ifCond .ne 5, 3) := by decide +kernel
theorem d_M_book_17 : decode prog_14_method_87_code 17 = .ok (.ifCond .eq 11, 3) := by decide +kernel
theorem d_M_book_5 : decode prog_14_method_87_code 5 = .ok (.aload_n 0, 1) := by decide +kernel
theorem d_M_book_6 : decode prog_14_method_87_code 6 = .ok (.iconst 0, 1) := by decide +kernel
theorem d_M_book_10 : decode prog_14_method_87_code 10 = .ok (.iconst 0, 1) := by decide +kernel
theorem d_M_book_11 : decode prog_14_method_87_code 11 = .ok (.ireturn, 1) := by decide +kernel
theorem d_M_book_2 : decode prog_14_method_87_code 2 = .ok (.if_icmp .ne 10, 3) := by decide +kernel
theorem d_M_book_69 : decode prog_14_method_87_code 69 = .ok (.putfield 126, 3) := by decide +kernel
theorem d_M_book_7 : decode prog_14_method_87_code 7 = .ok (.putfield 126, 3) := by decide +kernel
set_option maxRecDepth 10000 in
set_option maxHeartbeats 4000000 in
theorem w_M_book {q : QT} {z : ZT} {a1 : Int32} {a2 : Int32} {μ : Mm} {ν : Ml} (C : Ctx sdM q z prog_14_method_87_code "BesideTomModel" 3 2 (some (FieldType.int))) : R sdM q z 3 (φIm ν) (F_M_book a1 a2 μ) μ ν 0 [(0, .ref (q.2.2.1 0)), (1, .int a1), (2, .int a2)] [] := by
  unfold F_M_book
  refine R_iload_n C 1 d_M_book_0 rfl rfl ?_
  refine R_iconst C d_M_book_1 (v := (-1)) (by decide +kernel) ?_
  refine R_icmp_ne C d_M_book_2 (tgt := 12) (by decide) ?_ ?_
  · skip
    refine R_aload_n C 0 d_M_book_12 rfl rfl ?_
    refine R_iload_n C 1 d_M_book_13 rfl rfl ?_
    refine R_bind (fun v1 h2 => ?_)
    refine R_callV C mm_0 (mc_0 q _ _) rfl cf_M_isPupil rfl ml_M_233 im_M_isPupil sl_M_M_isPupil_M_isPupil (c_M_isPupil (gk C) h2) (by decide) (by decide) rfl rfl (Nat.le_of_ble_eq_true rfl) d_M_book_14 ?_
    refine R_if_eq C d_M_book_17 (tgt := 28) (by decide) ?_ ?_
    · skip
      refine R_iconst C d_M_book_28 (v := (-1)) (by decide +kernel) ?_
      exact R_iret C rfl d_M_book_29
    · skip
      refine R_aload_n C 0 d_M_book_20 rfl rfl ?_
      refine R_iload_n C 2 d_M_book_21 rfl rfl ?_
      refine R_bind (fun v3 h4 => ?_)
      refine R_callV C mm_0 (mc_0 q _ _) rfl cf_M_isDesk rfl ml_M_245 im_M_isDesk sl_M_M_isDesk_M_isDesk (c_M_isDesk (gk C) h4) (by decide) (by decide) rfl rfl (Nat.le_of_ble_eq_true rfl) d_M_book_22 ?_
      refine R_if_ne C d_M_book_25 (tgt := 30) (by decide) ?_ ?_
      · skip
        refine R_aload_n C 0 d_M_book_30 rfl rfl ?_
        refine gf_M_books C fl_M_126 d_M_book_31 ?_
        refine R_bipush C d_M_book_34 (v := 8) (by decide +kernel) ?_
        refine R_icmp_ne C d_M_book_36 (tgt := 42) (by decide) ?_ ?_
        · skip
          refine R_aload_n C 0 d_M_book_42 rfl rfl ?_
          refine gf_M_bookWho C fl_M_135 d_M_book_43 ?_
          refine R_aload_n C 0 d_M_book_46 rfl rfl ?_
          refine gf_M_books C fl_M_126 d_M_book_47 ?_
          refine R_iload_n C 1 d_M_book_50 rfl rfl ?_
          refine R_iast C mm_41 (fun h => mc_41 q h _) d_M_book_51 (fun μ5 => ?_)
          refine R_aload_n C 0 d_M_book_52 rfl rfl ?_
          refine gf_M_bookDesk C fl_M_138 d_M_book_53 ?_
          refine R_aload_n C 0 d_M_book_56 rfl rfl ?_
          refine gf_M_books C fl_M_126 d_M_book_57 ?_
          refine R_iload_n C 2 d_M_book_60 rfl rfl ?_
          refine R_iast C mm_42 (fun h => mc_42 q h _) d_M_book_61 (fun μ6 => ?_)
          refine R_aload_n C 0 d_M_book_62 rfl rfl ?_
          refine R_dup C d_M_book_63 rfl ?_
          refine gf_M_books C fl_M_126 d_M_book_64 ?_
          refine R_iconst C d_M_book_67 (v := 1) (by decide +kernel) ?_
          refine R_iadd C d_M_book_68 ?_
          refine pf_M_books C fl_M_126 d_M_book_69 (fun μ7 => ?_)
          refine R_aload_n C 0 d_M_book_72 rfl rfl ?_
          refine gf_M_books C fl_M_126 d_M_book_73 ?_
          exact R_iret C rfl d_M_book_76
        · skip
          refine R_bipush C d_M_book_39 (v := (-4)) (by decide +kernel) ?_
          exact R_iret C rfl d_M_book_41
      · skip
        refine R_iconst C d_M_book_28 (v := (-1)) (by decide +kernel) ?_
        exact R_iret C rfl d_M_book_29
  · skip
    refine R_aload_n C 0 d_M_book_5 rfl rfl ?_
    refine R_iconst C d_M_book_6 (v := 0) (by decide +kernel) ?_
    refine pf_M_books C fl_M_126 d_M_book_7 (fun μ8 => ?_)
    refine R_iconst C d_M_book_10 (v := 0) (by decide +kernel) ?_
    exact R_iret C rfl d_M_book_11
theorem c_M_book {q : QT} (hg : GOk sdM q) {a1 : Int32} {a2 : Int32} {μ : Mm} {ν : Ml} {o : Int32 × Mm} (ho : F_M_book a1 a2 μ = some o) : Ct sdM q y_M_book prog_14_method_87_code 3 (some (FieldType.int)) 2 [.ref (q.2.2.1 0), .int a1, .int a2] μ ν ((φIm ν) o).1 ((φIm ν) o).2.1 ((φIm ν) o).2.2 := Ct_of rfl hg (fun z C => w_M_book C) (Nat.le_of_ble_eq_true rfl) ho
def F_M_cost (μ : Mm) : Option (Int32) := (F_M_lastOf 3 4 μ).bind fun v1 => some v1
theorem d_M_cost_0 : decode prog_14_method_41_code 0 = .ok (.aload_n 0, 1) := by decide +kernel
theorem d_M_cost_1 : decode prog_14_method_41_code 1 = .ok (.iconst 3, 1) := by decide +kernel
theorem d_M_cost_2 : decode prog_14_method_41_code 2 = .ok (.iconst 4, 1) := by decide +kernel
theorem d_M_cost_3 : decode prog_14_method_41_code 3 = .ok (.invokevirtual 308, 3) := by decide +kernel
theorem d_M_cost_6 : decode prog_14_method_41_code 6 = .ok (.ireturn, 1) := by decide +kernel
set_option maxRecDepth 10000 in
set_option maxHeartbeats 4000000 in
theorem w_M_cost {q : QT} {z : ZT} {μ : Mm} {ν : Ml} (C : Ctx sdM q z prog_14_method_41_code "BesideTomModel" 1 2 (some (FieldType.int))) : R sdM q z 1 (φI μ ν) (F_M_cost μ) μ ν 0 [(0, .ref (q.2.2.1 0))] [] := by
  unfold F_M_cost
  refine R_aload_n C 0 d_M_cost_0 rfl rfl ?_
  refine R_iconst C d_M_cost_1 (v := 3) (by decide +kernel) ?_
  refine R_iconst C d_M_cost_2 (v := 4) (by decide +kernel) ?_
  refine R_bind (fun v1 h2 => ?_)
  refine R_callV C mm_0 (mc_0 q _ _) rfl cf_M_lastOf rfl ml_M_308 im_M_lastOf sl_M_M_lastOf_M_lastOf (c_M_lastOf (gk C) h2) (by decide) (by decide) rfl rfl (Nat.le_of_ble_eq_true rfl) d_M_cost_3 ?_
  exact R_iret C rfl d_M_cost_6
theorem c_M_cost {q : QT} (hg : GOk sdM q) {μ : Mm} {ν : Ml} {o : Int32} (ho : F_M_cost μ = some o) : Ct sdM q y_M_cost prog_14_method_41_code 1 (some (FieldType.int)) 2 [.ref (q.2.2.1 0)] μ ν ((φI μ ν) o).1 ((φI μ ν) o).2.1 ((φI μ ν) o).2.2 := Ct_of rfl hg (fun z C => w_M_cost C) (Nat.le_of_ble_eq_true rfl) ho
def F_M_hear (a1 : Int32) (a2 : Int32) (μ : Mm) : Option (Int32 × Mm) := (if a1 = (-1) then lt_ (up2 μ 0 34 0) fun μ8 => some (0, μ8) else (F_M_isNoise a1).bind fun v1 => (if v1 = 0 then some ((-2), μ) else (F_M_in a2 0 20).bind fun v3 => (if v3 = 0 then some ((-2), μ) else (if (μ 0 34) = 5 then some ((-4), μ) else (wrI μ 35 5 (μ 0 34) a1).bind fun μ5 => (wrI μ5 36 5 (μ5 0 34) a2).bind fun μ6 => lt_ (up2 μ6 0 34 ((μ6 0 34) + 1)) fun μ7 => some ((μ7 0 34), μ7)))))
theorem d_M_hear_0 : decode prog_14_method_77_code 0 = .ok (.iload_n 1, 1) := by decide +kernel
theorem d_M_hear_1 : decode prog_14_method_77_code 1 = .ok (.iconst (-1), 1) := by decide +kernel
theorem d_M_hear_12 : decode prog_14_method_77_code 12 = .ok (.aload_n 0, 1) := by decide +kernel
theorem d_M_hear_13 : decode prog_14_method_77_code 13 = .ok (.iload_n 1, 1) := by decide +kernel
theorem d_M_hear_14 : decode prog_14_method_77_code 14 = .ok (.invokevirtual 377, 3) := by decide +kernel
theorem d_M_hear_31 : decode prog_14_method_77_code 31 = .ok (.bipush (-2), 2) := by decide +kernel
theorem d_M_hear_33 : decode prog_14_method_77_code 33 = .ok (.ireturn, 1) := by decide +kernel
theorem d_M_hear_20 : decode prog_14_method_77_code 20 = .ok (.aload_n 0, 1) := by decide +kernel
theorem d_M_hear_21 : decode prog_14_method_77_code 21 = .ok (.iload_n 2, 1) := by decide +kernel
theorem d_M_hear_22 : decode prog_14_method_77_code 22 = .ok (.iconst 0, 1) := by decide +kernel
theorem d_M_hear_23 : decode prog_14_method_77_code 23 = .ok (.bipush 20, 2) := by decide +kernel
theorem d_M_hear_25 : decode prog_14_method_77_code 25 = .ok (.invokevirtual 225, 3) := by decide +kernel
theorem d_M_hear_34 : decode prog_14_method_77_code 34 = .ok (.aload_n 0, 1) := by decide +kernel
theorem d_M_hear_38 : decode prog_14_method_77_code 38 = .ok (.iconst 5, 1) := by decide +kernel
theorem d_M_hear_45 : decode prog_14_method_77_code 45 = .ok (.aload_n 0, 1) := by decide +kernel
theorem d_M_hear_49 : decode prog_14_method_77_code 49 = .ok (.aload_n 0, 1) := by decide +kernel
theorem d_M_hear_53 : decode prog_14_method_77_code 53 = .ok (.iload_n 1, 1) := by decide +kernel
theorem d_M_hear_55 : decode prog_14_method_77_code 55 = .ok (.aload_n 0, 1) := by decide +kernel
theorem d_M_hear_59 : decode prog_14_method_77_code 59 = .ok (.aload_n 0, 1) := by decide +kernel
theorem d_M_hear_63 : decode prog_14_method_77_code 63 = .ok (.iload_n 2, 1) := by decide +kernel
theorem d_M_hear_65 : decode prog_14_method_77_code 65 = .ok (.aload_n 0, 1) := by decide +kernel
theorem d_M_hear_66 : decode prog_14_method_77_code 66 = .ok (.dup, 1) := by decide +kernel
theorem d_M_hear_70 : decode prog_14_method_77_code 70 = .ok (.iconst 1, 1) := by decide +kernel
theorem d_M_hear_71 : decode prog_14_method_77_code 71 = .ok (.iadd, 1) := by decide +kernel
theorem d_M_hear_75 : decode prog_14_method_77_code 75 = .ok (.aload_n 0, 1) := by decide +kernel
theorem d_M_hear_79 : decode prog_14_method_77_code 79 = .ok (.ireturn, 1) := by decide +kernel
theorem d_M_hear_76 : decode prog_14_method_77_code 76 = .ok (.getfield 114, 3) := by decide +kernel
theorem d_M_hear_67 : decode prog_14_method_77_code 67 = .ok (.getfield 114, 3) := by decide +kernel
theorem d_M_hear_64 : decode prog_14_method_77_code 64 = .ok (.iastore, 1) := by decide +kernel
theorem d_M_hear_60 : decode prog_14_method_77_code 60 = .ok (.getfield 114, 3) := by decide +kernel
theorem d_M_hear_56 : decode prog_14_method_77_code 56 = .ok (.getfield 120, 3) := by decide +kernel
theorem d_M_hear_54 : decode prog_14_method_77_code 54 = .ok (.iastore, 1) := by decide +kernel
theorem d_M_hear_50 : decode prog_14_method_77_code 50 = .ok (.getfield 114, 3) := by decide +kernel
theorem d_M_hear_46 : decode prog_14_method_77_code 46 = .ok (.getfield 117, 3) := by decide +kernel
theorem d_M_hear_42 : decode prog_14_method_77_code 42 = .ok (.bipush (-4), 2) := by decide +kernel
theorem d_M_hear_44 : decode prog_14_method_77_code 44 = .ok (.ireturn, 1) := by decide +kernel
theorem d_M_hear_39 : decode prog_14_method_77_code 39 = .ok (.if_icmp .ne 6, 3) := by decide +kernel
theorem d_M_hear_35 : decode prog_14_method_77_code 35 = .ok (.getfield 114, 3) := by decide +kernel
theorem d_M_hear_28 : decode prog_14_method_77_code 28 = .ok (.ifCond .ne 6, 3) := by decide +kernel
theorem d_M_hear_17 : decode prog_14_method_77_code 17 = .ok (.ifCond .eq 14, 3) := by decide +kernel
theorem d_M_hear_5 : decode prog_14_method_77_code 5 = .ok (.aload_n 0, 1) := by decide +kernel
theorem d_M_hear_6 : decode prog_14_method_77_code 6 = .ok (.iconst 0, 1) := by decide +kernel
theorem d_M_hear_10 : decode prog_14_method_77_code 10 = .ok (.iconst 0, 1) := by decide +kernel
theorem d_M_hear_11 : decode prog_14_method_77_code 11 = .ok (.ireturn, 1) := by decide +kernel
theorem d_M_hear_2 : decode prog_14_method_77_code 2 = .ok (.if_icmp .ne 10, 3) := by decide +kernel
theorem d_M_hear_72 : decode prog_14_method_77_code 72 = .ok (.putfield 114, 3) := by decide +kernel
theorem d_M_hear_7 : decode prog_14_method_77_code 7 = .ok (.putfield 114, 3) := by decide +kernel
set_option maxRecDepth 10000 in
set_option maxHeartbeats 4000000 in
theorem w_M_hear {q : QT} {z : ZT} {a1 : Int32} {a2 : Int32} {μ : Mm} {ν : Ml} (C : Ctx sdM q z prog_14_method_77_code "BesideTomModel" 3 2 (some (FieldType.int))) : R sdM q z 3 (φIm ν) (F_M_hear a1 a2 μ) μ ν 0 [(0, .ref (q.2.2.1 0)), (1, .int a1), (2, .int a2)] [] := by
  unfold F_M_hear
  refine R_iload_n C 1 d_M_hear_0 rfl rfl ?_
  refine R_iconst C d_M_hear_1 (v := (-1)) (by decide +kernel) ?_
  refine R_icmp_ne C d_M_hear_2 (tgt := 12) (by decide) ?_ ?_
  · skip
    refine R_aload_n C 0 d_M_hear_12 rfl rfl ?_
    refine R_iload_n C 1 d_M_hear_13 rfl rfl ?_
    refine R_bind (fun v1 h2 => ?_)
    refine R_callV C mm_0 (mc_0 q _ _) rfl cf_M_isNoise rfl ml_M_377 im_M_isNoise sl_M_M_isNoise_M_isNoise (c_M_isNoise (gk C) h2) (by decide) (by decide) rfl rfl (Nat.le_of_ble_eq_true rfl) d_M_hear_14 ?_
    refine R_if_eq C d_M_hear_17 (tgt := 31) (by decide) ?_ ?_
    · skip
      refine R_bipush C d_M_hear_31 (v := (-2)) (by decide +kernel) ?_
      exact R_iret C rfl d_M_hear_33
    · skip
      refine R_aload_n C 0 d_M_hear_20 rfl rfl ?_
      refine R_iload_n C 2 d_M_hear_21 rfl rfl ?_
      refine R_iconst C d_M_hear_22 (v := 0) (by decide +kernel) ?_
      refine R_bipush C d_M_hear_23 (v := 20) (by decide +kernel) ?_
      refine R_bind (fun v3 h4 => ?_)
      refine R_callV C mm_0 (mc_0 q _ _) rfl cf_M_in rfl ml_M_225 im_M_in sl_M_M_in_M_in (c_M_in (gk C) h4) (by decide) (by decide) rfl rfl (Nat.le_of_ble_eq_true rfl) d_M_hear_25 ?_
      refine R_if_ne C d_M_hear_28 (tgt := 34) (by decide) ?_ ?_
      · skip
        refine R_aload_n C 0 d_M_hear_34 rfl rfl ?_
        refine gf_M_heard C fl_M_114 d_M_hear_35 ?_
        refine R_iconst C d_M_hear_38 (v := 5) (by decide +kernel) ?_
        refine R_icmp_ne C d_M_hear_39 (tgt := 45) (by decide) ?_ ?_
        · skip
          refine R_aload_n C 0 d_M_hear_45 rfl rfl ?_
          refine gf_M_heardNoise C fl_M_117 d_M_hear_46 ?_
          refine R_aload_n C 0 d_M_hear_49 rfl rfl ?_
          refine gf_M_heard C fl_M_114 d_M_hear_50 ?_
          refine R_iload_n C 1 d_M_hear_53 rfl rfl ?_
          refine R_iast C mm_35 (fun h => mc_35 q h _) d_M_hear_54 (fun μ5 => ?_)
          refine R_aload_n C 0 d_M_hear_55 rfl rfl ?_
          refine gf_M_heardWhen C fl_M_120 d_M_hear_56 ?_
          refine R_aload_n C 0 d_M_hear_59 rfl rfl ?_
          refine gf_M_heard C fl_M_114 d_M_hear_60 ?_
          refine R_iload_n C 2 d_M_hear_63 rfl rfl ?_
          refine R_iast C mm_36 (fun h => mc_36 q h _) d_M_hear_64 (fun μ6 => ?_)
          refine R_aload_n C 0 d_M_hear_65 rfl rfl ?_
          refine R_dup C d_M_hear_66 rfl ?_
          refine gf_M_heard C fl_M_114 d_M_hear_67 ?_
          refine R_iconst C d_M_hear_70 (v := 1) (by decide +kernel) ?_
          refine R_iadd C d_M_hear_71 ?_
          refine pf_M_heard C fl_M_114 d_M_hear_72 (fun μ7 => ?_)
          refine R_aload_n C 0 d_M_hear_75 rfl rfl ?_
          refine gf_M_heard C fl_M_114 d_M_hear_76 ?_
          exact R_iret C rfl d_M_hear_79
        · skip
          refine R_bipush C d_M_hear_42 (v := (-4)) (by decide +kernel) ?_
          exact R_iret C rfl d_M_hear_44
      · skip
        refine R_bipush C d_M_hear_31 (v := (-2)) (by decide +kernel) ?_
        exact R_iret C rfl d_M_hear_33
  · skip
    refine R_aload_n C 0 d_M_hear_5 rfl rfl ?_
    refine R_iconst C d_M_hear_6 (v := 0) (by decide +kernel) ?_
    refine pf_M_heard C fl_M_114 d_M_hear_7 (fun μ8 => ?_)
    refine R_iconst C d_M_hear_10 (v := 0) (by decide +kernel) ?_
    exact R_iret C rfl d_M_hear_11
theorem c_M_hear {q : QT} (hg : GOk sdM q) {a1 : Int32} {a2 : Int32} {μ : Mm} {ν : Ml} {o : Int32 × Mm} (ho : F_M_hear a1 a2 μ = some o) : Ct sdM q y_M_hear prog_14_method_77_code 3 (some (FieldType.int)) 2 [.ref (q.2.2.1 0), .int a1, .int a2] μ ν ((φIm ν) o).1 ((φIm ν) o).2.1 ((φIm ν) o).2.2 := Ct_of rfl hg (fun z C => w_M_hear C) (Nat.le_of_ble_eq_true rfl) ho
