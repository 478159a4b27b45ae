def F_BT_without (a1 : Int32) (μ : Mm) : Option (Mm) := (F_Seat_becomes 60 40 μ).bind fun μ1 => (F_Seat_setAway 60 a1 1 μ1).bind fun μ3 => some μ3
theorem d_BT_without_0 : decode prog_1_method_23_code 0 = .ok (.aload_n 0, 1) := by decide +kernel
theorem d_BT_without_4 : decode prog_1_method_23_code 4 = .ok (.aload_n 0, 1) := by decide +kernel
theorem d_BT_without_8 : decode prog_1_method_23_code 8 = .ok (.invokevirtual 192, 3) := by decide +kernel
theorem d_BT_without_11 : decode prog_1_method_23_code 11 = .ok (.aload_n 0, 1) := by decide +kernel
theorem d_BT_without_15 : decode prog_1_method_23_code 15 = .ok (.iload_n 1, 1) := by decide +kernel
theorem d_BT_without_16 : decode prog_1_method_23_code 16 = .ok (.iconst 1, 1) := by decide +kernel
theorem d_BT_without_17 : decode prog_1_method_23_code 17 = .ok (.invokevirtual 137, 3) := by decide +kernel
theorem d_BT_without_20 : decode prog_1_method_23_code 20 = .ok (.return_, 1) := by decide +kernel
theorem d_BT_without_12 : decode prog_1_method_23_code 12 = .ok (.getfield 56, 3) := by decide +kernel
theorem d_BT_without_5 : decode prog_1_method_23_code 5 = .ok (.getfield 52, 3) := by decide +kernel
theorem d_BT_without_1 : decode prog_1_method_23_code 1 = .ok (.getfield 56, 3) := by decide +kernel
set_option maxRecDepth 10000 in
set_option maxHeartbeats 4000000 in
theorem w_BT_without {q : QT} {z : ZT} {a1 : Int32} {μ : Mm} {ν : Ml} (C : Ctx sdX q z prog_1_method_23_code "BesideTom" 2 3 none) : R sdX q z 2 (φVm ν) (F_BT_without a1 μ) μ ν 0 [(0, .ref (q.2.2.1 0)), (1, .int a1)] [] := by
  unfold F_BT_without
  refine R_aload_n C 0 d_BT_without_0 rfl rfl ?_
  refine gf_BT_asked C fl_BT_56 d_BT_without_1 ?_
  refine R_aload_n C 0 d_BT_without_4 rfl rfl ?_
  refine gf_BT_now C fl_BT_52 d_BT_without_5 ?_
  refine R_bind (fun μ1 h2 => ?_)
  refine R_callV C (se_0 s60) (sc_0 s60 q _ _) rfl cf_Seat_becomes rfl ml_BT_192 im_Seat_becomes sl_Seat_Seat_becomes_Seat_becomes (c_Seat_becomes (gk C) s60 s40 h2) (by decide) (by decide) rfl rfl (Nat.le_of_ble_eq_true rfl) d_BT_without_8 ?_
  refine R_aload_n C 0 d_BT_without_11 rfl rfl ?_
  refine gf_BT_asked C fl_BT_56 d_BT_without_12 ?_
  refine R_iload_n C 1 d_BT_without_15 rfl rfl ?_
  refine R_iconst C d_BT_without_16 (v := 1) (by decide +kernel) ?_
  refine R_bind (fun μ3 h4 => ?_)
  refine R_callV C (se_0 s60) (sc_0 s60 q _ _) rfl cf_Seat_setAway rfl ml_BT_137 im_Seat_setAway sl_Seat_Seat_setAway_Seat_setAway (c_Seat_setAway (gk C) s60 h4) (by decide) (by decide) rfl rfl (Nat.le_of_ble_eq_true rfl) d_BT_without_17 ?_
  exact R_vret C rfl d_BT_without_20
theorem c_BT_without {q : QT} (hg : GOk sdX q) {a1 : Int32} {μ : Mm} {ν : Ml} {o : Mm} (ho : F_BT_without a1 μ = some o) : Ct sdX q y_BT_without prog_1_method_23_code 2 none 3 [.ref (q.2.2.1 0), .int a1] μ ν ((φVm ν) o).1 ((φVm ν) o).2.1 ((φVm ν) o).2.2 := Ct_of rfl hg (fun z C => w_BT_without C) (Nat.le_of_ble_eq_true rfl) ho
def L_Rooms_either_11 (rec : Int32 → Mm → Option (Int32 × Mm)) (f7 : Int32) (k : Int32 → Int32 → Mm → Option (Int32 × Mm)) : Nat → Int32 → Int32 → Int32 → Mm → Option (Int32 × Mm)
  | 0, _, _, _, _ => none
  | n + 1, s4, s5, s6, μ8 => (if 100 ≤ s6 then k s4 s5 μ8 else jn (α := Unit) (fun K25 => (if (μ8 1 5) = 124 then K25 () else (if (μ8 1 5) = 38 then K25 () else k s4 s5 μ8))) (fun (_ : Unit) => jn (α := Int32) (fun K24 => (if (μ8 1 5) = 124 then K24 1 else K24 0)) (fun (j9 : Int32) => (F_Rooms_steps μ8).bind fun μ10 => (F_Rooms_single rec f7 μ10).bind fun p_ => match p_ with | (v12, μ13) => jn (α := Int32 × Int32) (fun K23 => (if j9 = 0 then jn (α := Int32) (fun K17 => jn (α := Unit) (fun K15 => (if s5 = 0 then K15 () else (if v12 = 0 then K15 () else K17 1))) (fun (_ : Unit) => K17 0)) (fun (j16 : Int32) => K23 (s4, j16)) else jn (α := Int32) (fun K20 => jn (α := Unit) (fun K18 => (if s4 = 0 then (if s5 = 0 then K20 0 else K18 ()) else K18 ())) (fun (_ : Unit) => K20 1)) (fun (j19 : Int32) => K23 (j19, v12)))) (fun (p_ : Int32 × Int32) => match p_ with | (j21, j22) => L_Rooms_either_11 rec f7 k n j21 j22 (s6 + 1) μ13))))
def B_Rooms_either (rec : Int32 → Mm → Option (Int32 × Mm))  (a1 : Int32) (μ : Mm) : Option (Int32 × Mm) := (F_Rooms_single rec a1 μ).bind fun p_ => match p_ with | (v1, μ2) => L_Rooms_either_11 rec a1 (fun (x26 : Int32) (x27 : Int32) (μ28 : Mm) => jn (α := Unit) (fun K29 => (if x26 = 0 then (if x27 = 0 then some (0, μ28) else K29 ()) else K29 ())) (fun (_ : Unit) => some (1, μ28))) fu 0 v1 0 μ2
theorem d_Rooms_either_0 : decode prog_5_method_16_code 0 = .ok (.iconst 0, 1) := by decide +kernel
theorem d_Rooms_either_1 : decode prog_5_method_16_code 1 = .ok (.istore_n 2, 1) := by decide +kernel
theorem d_Rooms_either_2 : decode prog_5_method_16_code 2 = .ok (.aload_n 0, 1) := by decide +kernel
theorem d_Rooms_either_3 : decode prog_5_method_16_code 3 = .ok (.iload_n 1, 1) := by decide +kernel
theorem d_Rooms_either_4 : decode prog_5_method_16_code 4 = .ok (.invokevirtual 119, 3) := by decide +kernel
theorem d_Rooms_either_7 : decode prog_5_method_16_code 7 = .ok (.istore_n 3, 1) := by decide +kernel
theorem d_Rooms_either_8 : decode prog_5_method_16_code 8 = .ok (.iconst 0, 1) := by decide +kernel
theorem d_Rooms_either_9 : decode prog_5_method_16_code 9 = .ok (.istore 4, 2) := by decide +kernel
theorem d_Rooms_either_11 : decode prog_5_method_16_code 11 = .ok (.iload 4, 2) := by decide +kernel
theorem d_Rooms_either_13 : decode prog_5_method_16_code 13 = .ok (.bipush 100, 2) := by decide +kernel
theorem d_Rooms_either_18 : decode prog_5_method_16_code 18 = .ok (.aload_n 0, 1) := by decide +kernel
theorem d_Rooms_either_22 : decode prog_5_method_16_code 22 = .ok (.bipush 124, 2) := by decide +kernel
theorem d_Rooms_either_27 : decode prog_5_method_16_code 27 = .ok (.aload_n 0, 1) := by decide +kernel
theorem d_Rooms_either_31 : decode prog_5_method_16_code 31 = .ok (.bipush 38, 2) := by decide +kernel
theorem d_Rooms_either_33 : decode prog_5_method_16_code 33 = .ok (.if_icmp .ne 76, 3) := by decide +kernel
theorem d_Rooms_either_28 : decode prog_5_method_16_code 28 = .ok (.getfield 46, 3) := by decide +kernel
theorem d_Rooms_either_24 : decode prog_5_method_16_code 24 = .ok (.if_icmp .eq 12, 3) := by decide +kernel
theorem d_Rooms_either_36 : decode prog_5_method_16_code 36 = .ok (.aload_n 0, 1) := by decide +kernel
theorem d_Rooms_either_40 : decode prog_5_method_16_code 40 = .ok (.bipush 124, 2) := by decide +kernel
theorem d_Rooms_either_49 : decode prog_5_method_16_code 49 = .ok (.iconst 0, 1) := by decide +kernel
theorem d_Rooms_either_45 : decode prog_5_method_16_code 45 = .ok (.iconst 1, 1) := by decide +kernel
theorem d_Rooms_either_46 : decode prog_5_method_16_code 46 = .ok (.goto 4, 3) := by decide +kernel
theorem d_Rooms_either_42 : decode prog_5_method_16_code 42 = .ok (.if_icmp .ne 7, 3) := by decide +kernel
theorem d_Rooms_either_50 : decode prog_5_method_16_code 50 = .ok (.istore 5, 2) := by decide +kernel
theorem d_Rooms_either_52 : decode prog_5_method_16_code 52 = .ok (.aload_n 0, 1) := by decide +kernel
theorem d_Rooms_either_53 : decode prog_5_method_16_code 53 = .ok (.invokevirtual 49, 3) := by decide +kernel
theorem d_Rooms_either_56 : decode prog_5_method_16_code 56 = .ok (.aload_n 0, 1) := by decide +kernel
theorem d_Rooms_either_57 : decode prog_5_method_16_code 57 = .ok (.iload_n 1, 1) := by decide +kernel
theorem d_Rooms_either_58 : decode prog_5_method_16_code 58 = .ok (.invokevirtual 119, 3) := by decide +kernel
theorem d_Rooms_either_61 : decode prog_5_method_16_code 61 = .ok (.istore 6, 2) := by decide +kernel
theorem d_Rooms_either_63 : decode prog_5_method_16_code 63 = .ok (.iload 5, 2) := by decide +kernel
theorem d_Rooms_either_88 : decode prog_5_method_16_code 88 = .ok (.iload_n 3, 1) := by decide +kernel
theorem d_Rooms_either_92 : decode prog_5_method_16_code 92 = .ok (.iload 6, 2) := by decide +kernel
theorem d_Rooms_either_97 : decode prog_5_method_16_code 97 = .ok (.iconst 1, 1) := by decide +kernel
theorem d_Rooms_either_98 : decode prog_5_method_16_code 98 = .ok (.goto 4, 3) := by decide +kernel
theorem d_Rooms_either_94 : decode prog_5_method_16_code 94 = .ok (.ifCond .eq 7, 3) := by decide +kernel
theorem d_Rooms_either_89 : decode prog_5_method_16_code 89 = .ok (.ifCond .eq 12, 3) := by decide +kernel
theorem d_Rooms_either_101 : decode prog_5_method_16_code 101 = .ok (.iconst 0, 1) := by decide +kernel
theorem d_Rooms_either_102 : decode prog_5_method_16_code 102 = .ok (.istore_n 3, 1) := by decide +kernel
theorem d_Rooms_either_68 : decode prog_5_method_16_code 68 = .ok (.iload_n 2, 1) := by decide +kernel
theorem d_Rooms_either_72 : decode prog_5_method_16_code 72 = .ok (.iload_n 3, 1) := by decide +kernel
theorem d_Rooms_either_80 : decode prog_5_method_16_code 80 = .ok (.iconst 0, 1) := by decide +kernel
theorem d_Rooms_either_73 : decode prog_5_method_16_code 73 = .ok (.ifCond .eq 7, 3) := by decide +kernel
theorem d_Rooms_either_69 : decode prog_5_method_16_code 69 = .ok (.ifCond .ne 7, 3) := by decide +kernel
theorem d_Rooms_either_76 : decode prog_5_method_16_code 76 = .ok (.iconst 1, 1) := by decide +kernel
theorem d_Rooms_either_77 : decode prog_5_method_16_code 77 = .ok (.goto 4, 3) := by decide +kernel
theorem d_Rooms_either_81 : decode prog_5_method_16_code 81 = .ok (.istore_n 2, 1) := by decide +kernel
theorem d_Rooms_either_82 : decode prog_5_method_16_code 82 = .ok (.iload 6, 2) := by decide +kernel
theorem d_Rooms_either_84 : decode prog_5_method_16_code 84 = .ok (.istore_n 3, 1) := by decide +kernel
theorem d_Rooms_either_85 : decode prog_5_method_16_code 85 = .ok (.goto 18, 3) := by decide +kernel
theorem d_Rooms_either_65 : decode prog_5_method_16_code 65 = .ok (.ifCond .eq 23, 3) := by decide +kernel
theorem d_Rooms_either_103 : decode prog_5_method_16_code 103 = .ok (.iinc 4 1, 3) := by decide +kernel
theorem d_Rooms_either_106 : decode prog_5_method_16_code 106 = .ok (.goto (-95), 3) := by decide +kernel
theorem d_Rooms_either_37 : decode prog_5_method_16_code 37 = .ok (.getfield 46, 3) := by decide +kernel
theorem d_Rooms_either_19 : decode prog_5_method_16_code 19 = .ok (.getfield 46, 3) := by decide +kernel
theorem d_Rooms_either_15 : decode prog_5_method_16_code 15 = .ok (.if_icmp .ge 94, 3) := by decide +kernel
set_option maxRecDepth 10000 in
set_option maxHeartbeats 4000000 in
theorem W_Rooms_either_11 {d : Nat} {q : QT} {z : ZT} {ν : Ml} {f7 : Int32} {rec : Int32 → Mm → Option (Int32 × Mm)} {k : Int32 → Int32 → Mm → Option (Int32 × Mm)} (C : Ctx sdX q z prog_5_method_16_code "BesideTom$Rooms" 7 (3 + 2 * (d + 1)) (some (FieldType.boolean))) (hrec : ∀ (a1 : Int32) (μ : Mm) (ν : Ml) (o : Int32 × Mm), rec a1 μ = some o → Ct sdX q y_Rooms_either prog_5_method_16_code 7 (some (FieldType.boolean)) (3 + 2 * d) [.ref (q.2.2.1 1), .int a1] μ ν ((φIm ν) o).1 ((φIm ν) o).2.1 ((φIm ν) o).2.2) (hk : ∀ (e0_ : Int32) (e1_ : Int32) (me_ : Mm), R sdX q z 7 (φIm ν) (k e0_ e1_ me_) me_ ν 109 [(2, .int e0_), (3, .int e1_)] []) : ∀ (n : Nat) (s4 : Int32) (s5 : Int32) (s6 : Int32) (μ8 : Mm), R sdX q z 7 (φIm ν) (L_Rooms_either_11 rec f7 k n s4 s5 s6 μ8) μ8 ν 11 [(2, .int s4), (3, .int s5), (4, .int s6), (0, .ref (q.2.2.1 1)), (1, .int f7)] [] := by
  intro n
  induction n with
  | zero =>
    intros
    exact R_none
  | succ n ih =>
    intro s4 s5 s6 μ8
    rw [L_Rooms_either_11]
    refine R_iload C 2 d_Rooms_either_11 rfl ?_
    refine R_bipush C d_Rooms_either_13 (v := 100) (by decide +kernel) ?_
    refine R_icmp_ge C d_Rooms_either_15 (tgt := 109) (by decide) ?_ ?_
    · skip
      exact R_sub [0, 1] rfl (hk s4 s5 μ8)
    · skip
      refine R_aload_n C 3 d_Rooms_either_18 rfl rfl ?_
      refine gf_Rooms_sign C fl_Rooms_46 d_Rooms_either_19 ?_
      refine R_bipush C d_Rooms_either_22 (v := 124) (by decide +kernel) ?_
      refine R_jn (fun K25 => R sdX q z 7 (φIm ν) (K25 ()) μ8 ν 36 [(0, .ref (q.2.2.1 1)), (1, .int f7), (2, .int s4), (3, .int s5), (4, .int s6)] []) ?_ (fun K25 hK25 => ?_)
      · skip
        refine R_aload_n C 0 d_Rooms_either_36 rfl rfl ?_
        refine gf_Rooms_sign C fl_Rooms_46 d_Rooms_either_37 ?_
        refine R_bipush C d_Rooms_either_40 (v := 124) (by decide +kernel) ?_
        refine R_jn (fun K24 => ∀ (j9 : Int32), R sdX q z 7 (φIm ν) (K24 j9) μ8 ν 50 [(0, .ref (q.2.2.1 1)), (1, .int f7), (2, .int s4), (3, .int s5), (4, .int s6)] [.int j9]) ?_ (fun K24 hK24 => ?_)
        · intro j9
          refine R_istore C (lv' := [(5, .int j9), (0, .ref (q.2.2.1 1)), (1, .int f7), (2, .int s4), (3, .int s5), (4, .int s6)]) d_Rooms_either_50 (by decide) rfl ?_
          refine R_aload_n C 1 d_Rooms_either_52 rfl rfl ?_
          refine R_bind (fun μ10 h11 => ?_)
          refine R_callV C xm_1 (xc_1 q _ _) rfl cf_Rooms_steps rfl ml_Rooms_49 im_Rooms_steps sl_Rooms_Rooms_steps_Rooms_steps (c_Rooms_steps (gk C) h11) (by omega) (by decide) rfl rfl (Nat.le_of_ble_eq_true rfl) d_Rooms_either_53 ?_
          refine R_aload_n C 1 d_Rooms_either_56 rfl rfl ?_
          refine R_iload_n C 2 d_Rooms_either_57 rfl rfl ?_
          refine R_bind (fun r_ h14 => ?_)
          obtain ⟨v12, μ13⟩ := r_
          refine R_callV C xm_1 (xc_1 q _ _) rfl cf_Rooms_single rfl ml_Rooms_119 im_Rooms_single sl_Rooms_Rooms_single_Rooms_single (c_Rooms_single (gk C) hrec h14) (by omega) (by decide) rfl rfl (Nat.le_of_ble_eq_true rfl) d_Rooms_either_58 ?_
          refine R_istore C (lv' := [(6, .int v12), (5, .int j9), (0, .ref (q.2.2.1 1)), (1, .int f7), (2, .int s4), (3, .int s5), (4, .int s6)]) d_Rooms_either_61 (by decide) rfl ?_
          refine R_iload C 1 d_Rooms_either_63 rfl ?_
          refine R_jn (fun K23 => ∀ (j21 : Int32) (j22 : Int32), R sdX q z 7 (φIm ν) (K23 (j21, j22)) μ13 ν 103 [(0, .ref (q.2.2.1 1)), (1, .int f7), (2, .int j21), (3, .int j22), (4, .int s6)] []) ?_ (fun K23 hK23 => ?_)
          · intro j21 j22
            refine R_iinc C 4 d_Rooms_either_103 rfl (iinc_v _ (v := 1) (by decide +kernel)) (lv' := [(4, .int (s6 + 1)), (0, .ref (q.2.2.1 1)), (1, .int f7), (2, .int j21), (3, .int j22)]) (by decide) rfl ?_
            refine R_goto C d_Rooms_either_106 (tgt := 11) (by decide) ?_
            exact R_sub [3, 4, 0, 1, 2] rfl (ih j21 j22 (s6 + 1) μ13)
          · skip
            refine R_if_eq C d_Rooms_either_65 (tgt := 88) (by decide) ?_ ?_
            · skip
              refine R_iload_n C 5 d_Rooms_either_88 rfl rfl ?_
              refine R_jn (fun K17 => ∀ (j16 : Int32), R sdX q z 7 (φIm ν) (K17 j16) μ13 ν 102 [(0, .ref (q.2.2.1 1)), (1, .int f7), (2, .int s4), (4, .int s6)] [.int j16]) ?_ (fun K17 hK17 => ?_)
              · intro j16
                refine R_istore_n C (lv' := [(3, .int j16), (0, .ref (q.2.2.1 1)), (1, .int f7), (2, .int s4), (4, .int s6)]) d_Rooms_either_102 rfl (by decide) rfl ?_
                exact R_sub [1, 2, 3, 0, 4] rfl (hK23 s4 j16)
              · skip
                refine R_jn (fun K15 => R sdX q z 7 (φIm ν) (K15 ()) μ13 ν 101 [(0, .ref (q.2.2.1 1)), (1, .int f7), (2, .int s4), (4, .int s6)] []) ?_ (fun K15 hK15 => ?_)
                · skip
                  refine R_iconst C d_Rooms_either_101 (v := 0) (by decide +kernel) ?_
                  exact R_sub [0, 1, 2, 3] rfl (hK17 0)
                · skip
                  refine R_if_eq C d_Rooms_either_89 (tgt := 101) (by decide) ?_ ?_
                  · skip
                    exact R_sub [2, 3, 4, 6] rfl (hK15)
                  · skip
                    refine R_iload C 0 d_Rooms_either_92 rfl ?_
                    refine R_if_eq C d_Rooms_either_94 (tgt := 101) (by decide) ?_ ?_
                    · skip
                      exact R_sub [2, 3, 4, 6] rfl (hK15)
                    · skip
                      refine R_iconst C d_Rooms_either_97 (v := 1) (by decide +kernel) ?_
                      refine R_goto C d_Rooms_either_98 (tgt := 102) (by decide) ?_
                      exact R_sub [2, 3, 4, 6] rfl (hK17 1)
            · skip
              refine R_iload_n C 4 d_Rooms_either_68 rfl rfl ?_
              refine R_jn (fun K20 => ∀ (j19 : Int32), R sdX q z 7 (φIm ν) (K20 j19) μ13 ν 81 [(0, .ref (q.2.2.1 1)), (1, .int f7), (4, .int s6), (6, .int v12)] [.int j19]) ?_ (fun K20 hK20 => ?_)
              · intro j19
                refine R_istore_n C (lv' := [(2, .int j19), (0, .ref (q.2.2.1 1)), (1, .int f7), (4, .int s6), (6, .int v12)]) d_Rooms_either_81 rfl (by decide) rfl ?_
                refine R_iload C 4 d_Rooms_either_82 rfl ?_
                refine R_istore_n C (lv' := [(3, .int v12), (2, .int j19), (0, .ref (q.2.2.1 1)), (1, .int f7), (4, .int s6), (6, .int v12)]) d_Rooms_either_84 rfl (by decide) rfl ?_
                refine R_goto C d_Rooms_either_85 (tgt := 103) (by decide) ?_
                exact R_sub [2, 3, 1, 0, 4] rfl (hK23 j19 v12)
              · skip
                refine R_jn (fun K18 => R sdX q z 7 (φIm ν) (K18 ()) μ13 ν 76 [(0, .ref (q.2.2.1 1)), (1, .int f7), (4, .int s6), (6, .int v12)] []) ?_ (fun K18 hK18 => ?_)
                · skip
                  refine R_iconst C d_Rooms_either_76 (v := 1) (by decide +kernel) ?_
                  refine R_goto C d_Rooms_either_77 (tgt := 81) (by decide) ?_
                  exact R_sub [0, 1, 2, 3] rfl (hK20 1)
                · skip
                  refine R_if_ne C d_Rooms_either_69 (tgt := 76) (by decide) ?_ ?_
                  · skip
                    exact R_sub [2, 3, 6, 0] rfl (hK18)
                  · skip
                    refine R_iload_n C 5 d_Rooms_either_72 rfl rfl ?_
                    refine R_if_eq C d_Rooms_either_73 (tgt := 80) (by decide) ?_ ?_
                    · skip
                      refine R_iconst C d_Rooms_either_80 (v := 0) (by decide +kernel) ?_
                      exact R_sub [2, 3, 6, 0] rfl (hK20 0)
                    · skip
                      exact R_sub [2, 3, 6, 0] rfl (hK18)
        · skip
          refine R_icmp_ne C d_Rooms_either_42 (tgt := 49) (by decide) ?_ ?_
          · skip
            refine R_iconst C d_Rooms_either_49 (v := 0) (by decide +kernel) ?_
            exact R_sub [0, 1, 2, 3, 4] rfl (hK24 0)
          · skip
            refine R_iconst C d_Rooms_either_45 (v := 1) (by decide +kernel) ?_
            refine R_goto C d_Rooms_either_46 (tgt := 50) (by decide) ?_
            exact R_sub [0, 1, 2, 3, 4] rfl (hK24 1)
      · skip
        refine R_icmp_eq C d_Rooms_either_24 (tgt := 36) (by decide) ?_ ?_
        · skip
          exact R_sub [3, 4, 0, 1, 2] rfl (hK25)
        · skip
          refine R_aload_n C 3 d_Rooms_either_27 rfl rfl ?_
          refine gf_Rooms_sign C fl_Rooms_46 d_Rooms_either_28 ?_
          refine R_bipush C d_Rooms_either_31 (v := 38) (by decide +kernel) ?_
          refine R_icmp_ne C d_Rooms_either_33 (tgt := 109) (by decide) ?_ ?_
          · skip
            exact R_sub [0, 1] rfl (hk s4 s5 μ8)
          · skip
            exact R_sub [3, 4, 0, 1, 2] rfl (hK25)
theorem d_Rooms_either_109 : decode prog_5_method_16_code 109 = .ok (.iload_n 2, 1) := by decide +kernel
theorem d_Rooms_either_113 : decode prog_5_method_16_code 113 = .ok (.iload_n 3, 1) := by decide +kernel
theorem d_Rooms_either_121 : decode prog_5_method_16_code 121 = .ok (.iconst 0, 1) := by decide +kernel
theorem d_Rooms_either_122 : decode prog_5_method_16_code 122 = .ok (.ireturn, 1) := by decide +kernel
theorem d_Rooms_either_114 : decode prog_5_method_16_code 114 = .ok (.ifCond .eq 7, 3) := by decide +kernel
theorem d_Rooms_either_110 : decode prog_5_method_16_code 110 = .ok (.ifCond .ne 7, 3) := by decide +kernel
theorem d_Rooms_either_117 : decode prog_5_method_16_code 117 = .ok (.iconst 1, 1) := by decide +kernel
theorem d_Rooms_either_118 : decode prog_5_method_16_code 118 = .ok (.goto 4, 3) := by decide +kernel
set_option maxRecDepth 10000 in
set_option maxHeartbeats 4000000 in
theorem w_Rooms_either {d : Nat} {q : QT} {z : ZT} {rec : Int32 → Mm → Option (Int32 × Mm)} {a1 : Int32} {μ : Mm} {ν : Ml} (C : Ctx sdX q z prog_5_method_16_code "BesideTom$Rooms" 7 (3 + 2 * (d + 1)) (some (FieldType.boolean))) (hrec : ∀ (a1 : Int32) (μ : Mm) (ν : Ml) (o : Int32 × Mm), rec a1 μ = some o → Ct sdX q y_Rooms_either prog_5_method_16_code 7 (some (FieldType.boolean)) (3 + 2 * d) [.ref (q.2.2.1 1), .int a1] μ ν ((φIm ν) o).1 ((φIm ν) o).2.1 ((φIm ν) o).2.2) : R sdX q z 7 (φIm ν) (B_Rooms_either rec a1 μ) μ ν 0 [(0, .ref (q.2.2.1 1)), (1, .int a1)] [] := by
  unfold B_Rooms_either
  refine R_iconst C d_Rooms_either_0 (v := 0) (by decide +kernel) ?_
  refine R_istore_n C (lv' := [(2, .int 0), (0, .ref (q.2.2.1 1)), (1, .int a1)]) d_Rooms_either_1 rfl (by decide) rfl ?_
  refine R_aload_n C 1 d_Rooms_either_2 rfl rfl ?_
  refine R_iload_n C 2 d_Rooms_either_3 rfl rfl ?_
  refine R_bind (fun r_ h3 => ?_)
  obtain ⟨v1, μ2⟩ := r_
  refine R_callV C xm_1 (xc_1 q _ _) rfl cf_Rooms_single rfl ml_Rooms_119 im_Rooms_single sl_Rooms_Rooms_single_Rooms_single (c_Rooms_single (gk C) hrec h3) (by omega) (by decide) rfl rfl (Nat.le_of_ble_eq_true rfl) d_Rooms_either_4 ?_
  refine R_istore_n C (lv' := [(3, .int v1), (2, .int 0), (0, .ref (q.2.2.1 1)), (1, .int a1)]) d_Rooms_either_7 rfl (by decide) rfl ?_
  refine R_iconst C d_Rooms_either_8 (v := 0) (by decide +kernel) ?_
  refine R_istore C (lv' := [(4, .int 0), (3, .int v1), (2, .int 0), (0, .ref (q.2.2.1 1)), (1, .int a1)]) d_Rooms_either_9 (by decide) rfl ?_
  refine R_sub [2, 1, 0, 3, 4] rfl ?_
  refine W_Rooms_either_11 C hrec ?_ fu _ _ _ _
  intro x26 x27 μ28
  refine R_iload_n C 0 d_Rooms_either_109 rfl rfl ?_
  refine R_jn (fun K29 => R sdX q z 7 (φIm ν) (K29 ()) μ28 ν 117 [] []) ?_ (fun K29 hK29 => ?_)
  · skip
    refine R_iconst C d_Rooms_either_117 (v := 1) (by decide +kernel) ?_
    refine R_goto C d_Rooms_either_118 (tgt := 122) (by decide) ?_
    exact R_zret C (by decide) rfl d_Rooms_either_122
  · skip
    refine R_if_ne C d_Rooms_either_110 (tgt := 117) (by decide) ?_ ?_
    · skip
      exact R_sub [] rfl (hK29)
    · skip
      refine R_iload_n C 1 d_Rooms_either_113 rfl rfl ?_
      refine R_if_eq C d_Rooms_either_114 (tgt := 121) (by decide) ?_ ?_
      · skip
        refine R_iconst C d_Rooms_either_121 (v := 0) (by decide +kernel) ?_
        exact R_zret C (by decide) rfl d_Rooms_either_122
      · skip
        exact R_sub [] rfl (hK29)
def F_Rooms_either : Nat → Int32 → Mm → Option (Int32 × Mm)
  | 0, _, _ => none
  | d + 1, a1, μ => B_Rooms_either (F_Rooms_either d) a1 μ
theorem c_Rooms_either {d : Nat} {q : QT} (hg : GOk sdX q) {a1 : Int32} {μ : Mm} {ν : Ml} {o : Int32 × Mm} (ho : F_Rooms_either d a1 μ = some o) : Ct sdX q y_Rooms_either prog_5_method_16_code 7 (some (FieldType.boolean)) (3 + 2 * d) [.ref (q.2.2.1 1), .int a1] μ ν ((φIm ν) o).1 ((φIm ν) o).2.1 ((φIm ν) o).2.2 := by
  revert a1 μ ν o
  induction d with
  | zero =>
    intros
    rename_i ho
    cases ho
  | succ d ih =>
    intro a1 μ ν o ho
    exact Ct_of rfl hg (fun z C => w_Rooms_either (rec := F_Rooms_either d) C (fun a1 μ ν o ho => ih ho)) (Nat.le_of_ble_eq_true rfl) ho
def F_Talk_chats (this : Nat) (a2 : Int32) (μ : Mm) : Option (Int32 × Mm) := (F_Trace_begins 20 μ).bind fun μ1 => (F_PK_chats this a2 μ1).bind fun p_ => match p_ with | (v3, μ4) => some ((v3 ^^^ 6), μ4)
theorem d_Talk_chats_0 : decode prog_9_method_4_code 0 = .ok (.aload_n 1, 1) := by decide +kernel
theorem d_Talk_chats_1 : decode prog_9_method_4_code 1 = .ok (.bipush 20, 2) := by decide +kernel
theorem d_Talk_chats_3 : decode prog_9_method_4_code 3 = .ok (.invokevirtual 15, 3) := by decide +kernel
theorem d_Talk_chats_6 : decode prog_9_method_4_code 6 = .ok (.aload_n 0, 1) := by decide +kernel
theorem d_Talk_chats_7 : decode prog_9_method_4_code 7 = .ok (.aload_n 1, 1) := by decide +kernel
theorem d_Talk_chats_8 : decode prog_9_method_4_code 8 = .ok (.iload_n 2, 1) := by decide +kernel
theorem d_Talk_chats_9 : decode prog_9_method_4_code 9 = .ok (.invokespecial 21, 3) := by decide +kernel
theorem d_Talk_chats_12 : decode prog_9_method_4_code 12 = .ok (.bipush 6, 2) := by decide +kernel
theorem d_Talk_chats_14 : decode prog_9_method_4_code 14 = .ok (.ixor, 1) := by decide +kernel
theorem d_Talk_chats_15 : decode prog_9_method_4_code 15 = .ok (.ireturn, 1) := by decide +kernel
set_option maxRecDepth 10000 in
set_option maxHeartbeats 4000000 in
theorem w_Talk_chats {q : QT} {z : ZT} {this : Nat} {a2 : Int32} {μ : Mm} {ν : Ml} (C : Ctx sdX q z prog_9_method_4_code "BesideTom$TalkerKind" 3 4 (some (FieldType.int))) (h_this : this ∈ kd_Talk) : R sdX q z 3 (φIm ν) (F_Talk_chats this a2 μ) μ ν 0 [(0, .ref (q.2.2.1 this)), (1, .ref (q.2.2.1 11)), (2, .int a2)] [] := by
  unfold F_Talk_chats
  refine R_aload_n C 1 d_Talk_chats_0 rfl rfl ?_
  refine R_bipush C d_Talk_chats_1 (v := 20) (by decide +kernel) ?_
  refine R_bind (fun μ1 h2 => ?_)
  refine R_callV C xm_11 (xc_11 q _ _) rfl cf_Trace_begins rfl ml_Talk_15 im_Trace_begins sl_Trace_Trace_begins_Trace_begins (c_Trace_begins (gk C) h2) (by decide) (by decide) rfl rfl (Nat.le_of_ble_eq_true rfl) d_Talk_chats_3 ?_
  refine R_aload_n C 0 d_Talk_chats_6 rfl rfl ?_
  refine R_aload_n C 1 d_Talk_chats_7 rfl rfl ?_
  refine R_iload_n C 2 d_Talk_chats_8 rfl rfl ?_
  refine R_bind (fun r_ h5 => ?_)
  obtain ⟨v3, μ4⟩ := r_
  obtain ⟨ci_, Cn_, T_, N_, hq1_, hq2_⟩ := kc_0 (kdup (A := kd_Talk) (by decide) h_this) q (μ1 this) (ν this)
  refine R_callSU C (ke_0 (kdup (A := kd_Talk) (by decide) h_this)) hq1_ hq2_ cf_PK_chats (by decide) ml_Talk_21 sa_PK_PK_chats su_Talk_PK im_PK_chats (c_PK_chats (gk C) (kdup (A := kd_Talk) (by decide) h_this) h5) (by decide) (by decide) rfl rfl (Nat.le_of_ble_eq_true rfl) d_Talk_chats_9 ?_
  refine R_bipush C d_Talk_chats_12 (v := 6) (by decide +kernel) ?_
  refine R_ixor C d_Talk_chats_14 ?_
  exact R_iret C rfl d_Talk_chats_15
theorem c_Talk_chats {q : QT} (hg : GOk sdX q) {this : Nat} {a2 : Int32} {μ : Mm} {ν : Ml} (h_this : this ∈ kd_Talk) {o : Int32 × Mm} (ho : F_Talk_chats this a2 μ = some o) : Ct sdX q y_Talk_chats prog_9_method_4_code 3 (some (FieldType.int)) 4 [.ref (q.2.2.1 this), .ref (q.2.2.1 11), .int a2] μ ν ((φIm ν) o).1 ((φIm ν) o).2.1 ((φIm ν) o).2.2 := Ct_of rfl hg (fun z C => w_Talk_chats C h_this) (Nat.le_of_ble_eq_true rfl) ho
def F_Told_chats (this : Nat) (a2 : Int32) (μ : Mm) : Option (Int32 × Mm) := (F_Trace_begins 70 μ).bind fun μ1 => (F_PK_chats this a2 μ1).bind fun p_ => match p_ with | (v3, μ4) => (F_PK_whispers this 2 μ4).bind fun p_ => match p_ with | (v6, μ7) => some ((v3 + v6), μ7)
theorem d_Told_chats_0 : decode prog_10_method_4_code 0 = .ok (.aload_n 1, 1) := by decide +kernel
theorem d_Told_chats_1 : decode prog_10_method_4_code 1 = .ok (.bipush 70, 2) := by decide +kernel
theorem d_Told_chats_3 : decode prog_10_method_4_code 3 = .ok (.invokevirtual 17, 3) := by decide +kernel
theorem d_Told_chats_6 : decode prog_10_method_4_code 6 = .ok (.aload_n 0, 1) := by decide +kernel
theorem d_Told_chats_7 : decode prog_10_method_4_code 7 = .ok (.aload_n 1, 1) := by decide +kernel
theorem d_Told_chats_8 : decode prog_10_method_4_code 8 = .ok (.iload_n 2, 1) := by decide +kernel
theorem d_Told_chats_9 : decode prog_10_method_4_code 9 = .ok (.invokespecial 23, 3) := by decide +kernel
theorem d_Told_chats_12 : decode prog_10_method_4_code 12 = .ok (.aload_n 0, 1) := by decide +kernel
theorem d_Told_chats_13 : decode prog_10_method_4_code 13 = .ok (.aload_n 1, 1) := by decide +kernel
theorem d_Told_chats_14 : decode prog_10_method_4_code 14 = .ok (.iconst 2, 1) := by decide +kernel
theorem d_Told_chats_15 : decode prog_10_method_4_code 15 = .ok (.invokespecial 27, 3) := by decide +kernel
theorem d_Told_chats_18 : decode prog_10_method_4_code 18 = .ok (.iadd, 1) := by decide +kernel
theorem d_Told_chats_19 : decode prog_10_method_4_code 19 = .ok (.ireturn, 1) := by decide +kernel
set_option maxRecDepth 10000 in
set_option maxHeartbeats 4000000 in
theorem w_Told_chats {q : QT} {z : ZT} {this : Nat} {a2 : Int32} {μ : Mm} {ν : Ml} (C : Ctx sdX q z prog_10_method_4_code "BesideTom$ToldKind" 3 4 (some (FieldType.int))) (h_this : this ∈ kd_Told) : R sdX q z 3 (φIm ν) (F_Told_chats this a2 μ) μ ν 0 [(0, .ref (q.2.2.1 this)), (1, .ref (q.2.2.1 11)), (2, .int a2)] [] := by
  unfold F_Told_chats
  refine R_aload_n C 1 d_Told_chats_0 rfl rfl ?_
  refine R_bipush C d_Told_chats_1 (v := 70) (by decide +kernel) ?_
  refine R_bind (fun μ1 h2 => ?_)
  refine R_callV C xm_11 (xc_11 q _ _) rfl cf_Trace_begins rfl ml_Told_17 im_Trace_begins sl_Trace_Trace_begins_Trace_begins (c_Trace_begins (gk C) h2) (by decide) (by decide) rfl rfl (Nat.le_of_ble_eq_true rfl) d_Told_chats_3 ?_
  refine R_aload_n C 0 d_Told_chats_6 rfl rfl ?_
  refine R_aload_n C 1 d_Told_chats_7 rfl rfl ?_
  refine R_iload_n C 2 d_Told_chats_8 rfl rfl ?_
  refine R_bind (fun r_ h5 => ?_)
  obtain ⟨v3, μ4⟩ := r_
  obtain ⟨ci_, Cn_, T_, N_, hq1_, hq2_⟩ := kc_0 (kdup (A := kd_Told) (by decide) h_this) q (μ1 this) (ν this)
  refine R_callSO C (ke_0 (kdup (A := kd_Told) (by decide) h_this)) hq1_ hq2_ cf_PK_chats (x := ⟨"BesideTom$ShortKind", "chats", "(LBesideTom$Trace;I)I"⟩) (by decide) rfl ml_Told_23 sa_Short_PK_chats su_Told_Short su_Short_PK im_PK_chats (c_PK_chats (gk C) (kdup (A := kd_Told) (by decide) h_this) h5) (by decide) (by decide) rfl rfl (Nat.le_of_ble_eq_true rfl) d_Told_chats_9 ?_
  refine R_aload_n C 0 d_Told_chats_12 rfl rfl ?_
  refine R_aload_n C 1 d_Told_chats_13 rfl rfl ?_
  refine R_iconst C d_Told_chats_14 (v := 2) (by decide +kernel) ?_
  refine R_bind (fun r_ h8 => ?_)
  obtain ⟨v6, μ7⟩ := r_
  obtain ⟨ci_, Cn_, T_, N_, hq1_, hq2_⟩ := kc_0 (kdup (A := kd_Told) (by decide) h_this) q (μ4 this) (ν this)
  refine R_callSO C (ke_0 (kdup (A := kd_Told) (by decide) h_this)) hq1_ hq2_ cf_PK_whispers (x := ⟨"BesideTom$ShortKind", "whispers", "(LBesideTom$Trace;I)I"⟩) (by decide) rfl ml_Told_27 sa_Short_PK_whispers su_Told_Short su_Short_PK im_PK_whispers (c_PK_whispers (gk C) (kdup (A := kd_Told) (by decide) h_this) h8) (by decide) (by decide) rfl rfl (Nat.le_of_ble_eq_true rfl) d_Told_chats_15 ?_
  refine R_iadd C d_Told_chats_18 ?_
  exact R_iret C rfl d_Told_chats_19
theorem c_Told_chats {q : QT} (hg : GOk sdX q) {this : Nat} {a2 : Int32} {μ : Mm} {ν : Ml} (h_this : this ∈ kd_Told) {o : Int32 × Mm} (ho : F_Told_chats this a2 μ = some o) : Ct sdX q y_Told_chats prog_10_method_4_code 3 (some (FieldType.int)) 4 [.ref (q.2.2.1 this), .ref (q.2.2.1 11), .int a2] μ ν ((φIm ν) o).1 ((φIm ν) o).2.1 ((φIm ν) o).2.2 := Ct_of rfl hg (fun z C => w_Told_chats C h_this) (Nat.le_of_ble_eq_true rfl) ho
def L_Seat_learnsOfAll_4 (f3 : Nat) (f4 : Int32) (μ : Mm) (k : Int32 → Option (Int32)) : Nat → Int32 → Int32 → Option (Int32)
  | 0, _, _ => none
  | n + 1, s1, s2 => (if (μ f3 1) ≤ s2 then k s1 else (F_Seat_learns f3 s2 f4 μ).bind fun v5 => L_Seat_learnsOfAll_4 f3 f4 μ k n (s1 + v5) (s2 + 1))
def F_Seat_learnsOfAll (this : Nat) (a1 : Int32) (μ : Mm) : Option (Int32) := L_Seat_learnsOfAll_4 this a1 μ (fun (x7 : Int32) => some x7) fu 0 0
theorem d_Seat_learnsOfAll_0 : decode prog_7_method_17_code 0 = .ok (.iconst 0, 1) := by decide +kernel
theorem d_Seat_learnsOfAll_1 : decode prog_7_method_17_code 1 = .ok (.istore_n 2, 1) := by decide +kernel
theorem d_Seat_learnsOfAll_2 : decode prog_7_method_17_code 2 = .ok (.iconst 0, 1) := by decide +kernel
theorem d_Seat_learnsOfAll_3 : decode prog_7_method_17_code 3 = .ok (.istore_n 3, 1) := by decide +kernel
theorem d_Seat_learnsOfAll_4 : decode prog_7_method_17_code 4 = .ok (.iload_n 3, 1) := by decide +kernel
theorem d_Seat_learnsOfAll_5 : decode prog_7_method_17_code 5 = .ok (.aload_n 0, 1) := by decide +kernel
theorem d_Seat_learnsOfAll_12 : decode prog_7_method_17_code 12 = .ok (.iload_n 2, 1) := by decide +kernel
theorem d_Seat_learnsOfAll_13 : decode prog_7_method_17_code 13 = .ok (.aload_n 0, 1) := by decide +kernel
theorem d_Seat_learnsOfAll_14 : decode prog_7_method_17_code 14 = .ok (.iload_n 3, 1) := by decide +kernel
theorem d_Seat_learnsOfAll_15 : decode prog_7_method_17_code 15 = .ok (.iload_n 1, 1) := by decide +kernel
theorem d_Seat_learnsOfAll_16 : decode prog_7_method_17_code 16 = .ok (.invokevirtual 145, 3) := by decide +kernel
theorem d_Seat_learnsOfAll_19 : decode prog_7_method_17_code 19 = .ok (.iadd, 1) := by decide +kernel
theorem d_Seat_learnsOfAll_20 : decode prog_7_method_17_code 20 = .ok (.istore_n 2, 1) := by decide +kernel
theorem d_Seat_learnsOfAll_21 : decode prog_7_method_17_code 21 = .ok (.iinc 3 1, 3) := by decide +kernel
theorem d_Seat_learnsOfAll_24 : decode prog_7_method_17_code 24 = .ok (.goto (-20), 3) := by decide +kernel
theorem d_Seat_learnsOfAll_9 : decode prog_7_method_17_code 9 = .ok (.if_icmp .ge 18, 3) := by decide +kernel
theorem d_Seat_learnsOfAll_6 : decode prog_7_method_17_code 6 = .ok (.getfield 59, 3) := by decide +kernel
set_option maxRecDepth 10000 in
set_option maxHeartbeats 4000000 in
theorem W_Seat_learnsOfAll_4 {q : QT} {z : ZT} {μ : Mm} {ν : Ml} {f3 : Nat} {f4 : Int32} {k : Int32 → Option (Int32)} (C : Ctx sdX q z prog_7_method_17_code "BesideTom$Seating" 4 4 (some (FieldType.int))) (h_f3 : f3 ∈ seats) (hk : ∀ (e0_ : Int32), R sdX q z 4 (φI μ ν) (k e0_) μ ν 27 [(2, .int e0_)] []) : ∀ (n : Nat) (s1 : Int32) (s2 : Int32), R sdX q z 4 (φI μ ν) (L_Seat_learnsOfAll_4 f3 f4 μ k n s1 s2) μ ν 4 [(2, .int s1), (3, .int s2), (0, .ref (q.2.2.1 f3)), (1, .int f4)] [] := by
  intro n
  induction n with
  | zero =>
    intros
    exact R_none
  | succ n ih =>
    intro s1 s2
    rw [L_Seat_learnsOfAll_4]
    refine R_iload_n C 1 d_Seat_learnsOfAll_4 rfl rfl ?_
    refine R_aload_n C 2 d_Seat_learnsOfAll_5 rfl rfl ?_
    refine gf_Seat_many C h_f3 fl_Seat_59 d_Seat_learnsOfAll_6 ?_
    refine R_icmp_ge C d_Seat_learnsOfAll_9 (tgt := 27) (by decide) ?_ ?_
    · skip
      exact R_sub [0] rfl (hk s1)
    · skip
      refine R_iload_n C 0 d_Seat_learnsOfAll_12 rfl rfl ?_
      refine R_aload_n C 2 d_Seat_learnsOfAll_13 rfl rfl ?_
      refine R_iload_n C 1 d_Seat_learnsOfAll_14 rfl rfl ?_
      refine R_iload_n C 3 d_Seat_learnsOfAll_15 rfl rfl ?_
      refine R_bind (fun v5 h6 => ?_)
      refine R_callV C (se_0 h_f3) (sc_0 h_f3 q _ _) rfl cf_Seat_learns rfl ml_Seat_145 im_Seat_learns sl_Seat_Seat_learns_Seat_learns (c_Seat_learns (gk C) h_f3 h6) (by decide) (by decide) rfl rfl (Nat.le_of_ble_eq_true rfl) d_Seat_learnsOfAll_16 ?_
      refine R_iadd C d_Seat_learnsOfAll_19 ?_
      refine R_istore_n C (lv' := [(2, .int (s1 + v5)), (3, .int s2), (0, .ref (q.2.2.1 f3)), (1, .int f4)]) d_Seat_learnsOfAll_20 rfl (by decide) rfl ?_
      refine R_iinc C 1 d_Seat_learnsOfAll_21 rfl (iinc_v _ (v := 1) (by decide +kernel)) (lv' := [(3, .int (s2 + 1)), (2, .int (s1 + v5)), (0, .ref (q.2.2.1 f3)), (1, .int f4)]) (by decide) rfl ?_
      refine R_goto C d_Seat_learnsOfAll_24 (tgt := 4) (by decide) ?_
      exact R_sub [1, 0, 2, 3] rfl (ih (s1 + v5) (s2 + 1))
theorem d_Seat_learnsOfAll_27 : decode prog_7_method_17_code 27 = .ok (.iload_n 2, 1) := by decide +kernel
theorem d_Seat_learnsOfAll_28 : decode prog_7_method_17_code 28 = .ok (.ireturn, 1) := by decide +kernel
set_option maxRecDepth 10000 in
set_option maxHeartbeats 4000000 in
theorem w_Seat_learnsOfAll {q : QT} {z : ZT} {this : Nat} {a1 : Int32} {μ : Mm} {ν : Ml} (C : Ctx sdX q z prog_7_method_17_code "BesideTom$Seating" 4 4 (some (FieldType.int))) (h_this : this ∈ seats) : R sdX q z 4 (φI μ ν) (F_Seat_learnsOfAll this a1 μ) μ ν 0 [(0, .ref (q.2.2.1 this)), (1, .int a1)] [] := by
  unfold F_Seat_learnsOfAll
  refine R_iconst C d_Seat_learnsOfAll_0 (v := 0) (by decide +kernel) ?_
  refine R_istore_n C (lv' := [(2, .int 0), (0, .ref (q.2.2.1 this)), (1, .int a1)]) d_Seat_learnsOfAll_1 rfl (by decide) rfl ?_
  refine R_iconst C d_Seat_learnsOfAll_2 (v := 0) (by decide +kernel) ?_
  refine R_istore_n C (lv' := [(3, .int 0), (2, .int 0), (0, .ref (q.2.2.1 this)), (1, .int a1)]) d_Seat_learnsOfAll_3 rfl (by decide) rfl ?_
  refine R_sub [1, 0, 2, 3] rfl ?_
  refine W_Seat_learnsOfAll_4 C h_this ?_ fu _ _
  intro x7
  refine R_iload_n C 0 d_Seat_learnsOfAll_27 rfl rfl ?_
  exact R_iret C rfl d_Seat_learnsOfAll_28
theorem c_Seat_learnsOfAll {q : QT} (hg : GOk sdX q) {this : Nat} {a1 : Int32} {μ : Mm} {ν : Ml} (h_this : this ∈ seats) {o : Int32} (ho : F_Seat_learnsOfAll this a1 μ = some o) : Ct sdX q y_Seat_learnsOfAll prog_7_method_17_code 4 (some (FieldType.int)) 4 [.ref (q.2.2.1 this), .int a1] μ ν ((φI μ ν) o).1 ((φI μ ν) o).2.1 ((φI μ ν) o).2.2 := Ct_of rfl hg (fun z C => w_Seat_learnsOfAll C h_this) (Nat.le_of_ble_eq_true rfl) ho
def F_Seat_talk (this : Nat) (a1 : Int32) (a2 : Int32) (μ : Mm) : Option (Int32) := (F_Seat_isAway this a1 μ).bind fun v1 => (if v1 = 0 then (rdI (μ (this + 1)) 6 a1).bind fun v3 => (if v3 = 5 then some 0 else (F_Seat_neighbours this a1 μ).bind fun v4 => (F_Seat_voice this a1 a2 μ).bind fun v6 => (F_Int_bitCount (v4 &&& (μ this 8))).bind fun v8 => lt_ (if 0 < (v6 - (2 * v8)) then (v6 - (2 * v8)) else 0) fun x10 => (if v4 = 0 then some x10 else lt_ (if 99 > ((μ this 3) + a2) then ((μ this 3) + a2) else 99) fun x11 => (F_BT_cut x11 (μ this 4)).bind fun v12 => some (x10 + v12))) else some 0)
theorem d_Seat_talk_0 : decode prog_7_method_14_code 0 = .ok (.aload_n 0, 1) := by decide +kernel
theorem d_Seat_talk_1 : decode prog_7_method_14_code 1 = .ok (.iload_n 1, 1) := by decide +kernel
theorem d_Seat_talk_2 : decode prog_7_method_14_code 2 = .ok (.invokevirtual 100, 3) := by decide +kernel
theorem d_Seat_talk_18 : decode prog_7_method_14_code 18 = .ok (.iconst 0, 1) := by decide +kernel
theorem d_Seat_talk_19 : decode prog_7_method_14_code 19 = .ok (.ireturn, 1) := by decide +kernel
theorem d_Seat_talk_8 : decode prog_7_method_14_code 8 = .ok (.aload_n 0, 1) := by decide +kernel
theorem d_Seat_talk_12 : decode prog_7_method_14_code 12 = .ok (.iload_n 1, 1) := by decide +kernel
theorem d_Seat_talk_14 : decode prog_7_method_14_code 14 = .ok (.iconst 5, 1) := by decide +kernel
theorem d_Seat_talk_20 : decode prog_7_method_14_code 20 = .ok (.aload_n 0, 1) := by decide +kernel
theorem d_Seat_talk_21 : decode prog_7_method_14_code 21 = .ok (.iload_n 1, 1) := by decide +kernel
theorem d_Seat_talk_22 : decode prog_7_method_14_code 22 = .ok (.invokevirtual 107, 3) := by decide +kernel
theorem d_Seat_talk_25 : decode prog_7_method_14_code 25 = .ok (.istore_n 3, 1) := by decide +kernel
theorem d_Seat_talk_26 : decode prog_7_method_14_code 26 = .ok (.iconst 0, 1) := by decide +kernel
theorem d_Seat_talk_27 : decode prog_7_method_14_code 27 = .ok (.aload_n 0, 1) := by decide +kernel
theorem d_Seat_talk_28 : decode prog_7_method_14_code 28 = .ok (.iload_n 1, 1) := by decide +kernel
theorem d_Seat_talk_29 : decode prog_7_method_14_code 29 = .ok (.iload_n 2, 1) := by decide +kernel
theorem d_Seat_talk_30 : decode prog_7_method_14_code 30 = .ok (.invokevirtual 125, 3) := by decide +kernel
theorem d_Seat_talk_33 : decode prog_7_method_14_code 33 = .ok (.iconst 2, 1) := by decide +kernel
theorem d_Seat_talk_34 : decode prog_7_method_14_code 34 = .ok (.iload_n 3, 1) := by decide +kernel
theorem d_Seat_talk_35 : decode prog_7_method_14_code 35 = .ok (.aload_n 0, 1) := by decide +kernel
theorem d_Seat_talk_39 : decode prog_7_method_14_code 39 = .ok (.iand, 1) := by decide +kernel
theorem d_Seat_talk_40 : decode prog_7_method_14_code 40 = .ok (.invokestatic 110, 3) := by decide +kernel
theorem d_Seat_talk_43 : decode prog_7_method_14_code 43 = .ok (.imul, 1) := by decide +kernel
theorem d_Seat_talk_44 : decode prog_7_method_14_code 44 = .ok (.isub, 1) := by decide +kernel
theorem d_Seat_talk_45 : decode prog_7_method_14_code 45 = .ok (.invokestatic 128, 3) := by decide +kernel
theorem d_Seat_talk_48 : decode prog_7_method_14_code 48 = .ok (.istore 4, 2) := by decide +kernel
theorem d_Seat_talk_50 : decode prog_7_method_14_code 50 = .ok (.iload_n 3, 1) := by decide +kernel
theorem d_Seat_talk_59 : decode prog_7_method_14_code 59 = .ok (.iload 4, 2) := by decide +kernel
theorem d_Seat_talk_61 : decode prog_7_method_14_code 61 = .ok (.bipush 99, 2) := by decide +kernel
theorem d_Seat_talk_63 : decode prog_7_method_14_code 63 = .ok (.aload_n 0, 1) := by decide +kernel
theorem d_Seat_talk_67 : decode prog_7_method_14_code 67 = .ok (.iload_n 2, 1) := by decide +kernel
theorem d_Seat_talk_68 : decode prog_7_method_14_code 68 = .ok (.iadd, 1) := by decide +kernel
theorem d_Seat_talk_69 : decode prog_7_method_14_code 69 = .ok (.invokestatic 133, 3) := by decide +kernel
theorem d_Seat_talk_72 : decode prog_7_method_14_code 72 = .ok (.aload_n 0, 1) := by decide +kernel
theorem d_Seat_talk_76 : decode prog_7_method_14_code 76 = .ok (.invokestatic 136, 3) := by decide +kernel
theorem d_Seat_talk_79 : decode prog_7_method_14_code 79 = .ok (.iadd, 1) := by decide +kernel
theorem d_Seat_talk_80 : decode prog_7_method_14_code 80 = .ok (.ireturn, 1) := by decide +kernel
theorem d_Seat_talk_73 : decode prog_7_method_14_code 73 = .ok (.getfield 9, 3) := by decide +kernel
theorem d_Seat_talk_64 : decode prog_7_method_14_code 64 = .ok (.getfield 65, 3) := by decide +kernel
theorem d_Seat_talk_54 : decode prog_7_method_14_code 54 = .ok (.iload 4, 2) := by decide +kernel
theorem d_Seat_talk_56 : decode prog_7_method_14_code 56 = .ok (.goto 24, 3) := by decide +kernel
theorem d_Seat_talk_51 : decode prog_7_method_14_code 51 = .ok (.ifCond .ne 8, 3) := by decide +kernel
theorem d_Seat_talk_36 : decode prog_7_method_14_code 36 = .ok (.getfield 71, 3) := by decide +kernel
theorem d_Seat_talk_15 : decode prog_7_method_14_code 15 = .ok (.if_icmp .ne 5, 3) := by decide +kernel
theorem d_Seat_talk_9 : decode prog_7_method_14_code 9 = .ok (.getfield 21, 3) := by decide +kernel
theorem d_Seat_talk_5 : decode prog_7_method_14_code 5 = .ok (.ifCond .ne 13, 3) := by decide +kernel
theorem d_Seat_talk_13 : decode prog_7_method_14_code 13 = .ok (.iaload, 1) := by decide +kernel
set_option maxRecDepth 10000 in
set_option maxHeartbeats 4000000 in
theorem w_Seat_talk {q : QT} {z : ZT} {this : Nat} {a1 : Int32} {a2 : Int32} {μ : Mm} {ν : Ml} (C : Ctx sdX q z prog_7_method_14_code "BesideTom$Seating" 5 4 (some (FieldType.int))) (h_this : this ∈ seats) : R sdX q z 5 (φI μ ν) (F_Seat_talk this a1 a2 μ) μ ν 0 [(0, .ref (q.2.2.1 this)), (1, .int a1), (2, .int a2)] [] := by
  unfold F_Seat_talk
  refine R_aload_n C 0 d_Seat_talk_0 rfl rfl ?_
  refine R_iload_n C 1 d_Seat_talk_1 rfl rfl ?_
  refine R_bind (fun v1 h2 => ?_)
  refine R_callV C (se_0 h_this) (sc_0 h_this q _ _) rfl cf_Seat_isAway rfl ml_Seat_100 im_Seat_isAway sl_Seat_Seat_isAway_Seat_isAway (c_Seat_isAway (gk C) h_this h2) (by decide) (by decide) rfl rfl (Nat.le_of_ble_eq_true rfl) d_Seat_talk_2 ?_
  refine R_if_ne C d_Seat_talk_5 (tgt := 18) (by decide) ?_ ?_
  · skip
    refine R_iconst C d_Seat_talk_18 (v := 0) (by decide +kernel) ?_
    exact R_iret C rfl d_Seat_talk_19
  · skip
    refine R_aload_n C 0 d_Seat_talk_8 rfl rfl ?_
    refine gf_Seat_kind C h_this fl_Seat_21 d_Seat_talk_9 ?_
    refine R_iload_n C 1 d_Seat_talk_12 rfl rfl ?_
    refine R_iald C (se_1 h_this) (sc_1 h_this q _ _) d_Seat_talk_13 (fun v3 => ?_)
    refine R_iconst C d_Seat_talk_14 (v := 5) (by decide +kernel) ?_
    refine R_icmp_ne C d_Seat_talk_15 (tgt := 20) (by decide) ?_ ?_
    · skip
      refine R_aload_n C 0 d_Seat_talk_20 rfl rfl ?_
      refine R_iload_n C 1 d_Seat_talk_21 rfl rfl ?_
      refine R_bind (fun v4 h5 => ?_)
      refine R_callV C (se_0 h_this) (sc_0 h_this q _ _) rfl cf_Seat_neighbours rfl ml_Seat_107 im_Seat_neighbours sl_Seat_Seat_neighbours_Seat_neighbours (c_Seat_neighbours (gk C) h_this h5) (by decide) (by decide) rfl rfl (Nat.le_of_ble_eq_true rfl) d_Seat_talk_22 ?_
      refine R_istore_n C (lv' := [(3, .int v4), (0, .ref (q.2.2.1 this)), (1, .int a1), (2, .int a2)]) d_Seat_talk_25 rfl (by decide) rfl ?_
      refine R_iconst C d_Seat_talk_26 (v := 0) (by decide +kernel) ?_
      refine R_aload_n C 1 d_Seat_talk_27 rfl rfl ?_
      refine R_iload_n C 2 d_Seat_talk_28 rfl rfl ?_
      refine R_iload_n C 3 d_Seat_talk_29 rfl rfl ?_
      refine R_bind (fun v6 h7 => ?_)
      refine R_callV C (se_0 h_this) (sc_0 h_this q _ _) rfl cf_Seat_voice rfl ml_Seat_125 im_Seat_voice sl_Seat_Seat_voice_Seat_voice (c_Seat_voice (gk C) h_this h7) (by decide) (by decide) rfl rfl (Nat.le_of_ble_eq_true rfl) d_Seat_talk_30 ?_
      refine R_iconst C d_Seat_talk_33 (v := 2) (by decide +kernel) ?_
      refine R_iload_n C 0 d_Seat_talk_34 rfl rfl ?_
      refine R_aload_n C 1 d_Seat_talk_35 rfl rfl ?_
      refine gf_Seat_corks C h_this fl_Seat_71 d_Seat_talk_36 ?_
      refine R_iand C d_Seat_talk_39 ?_
      refine R_bind (fun v8 h9 => ?_)
      refine R_callS C cf_Int_bitCount ml_Seat_110 sm_Int_bitCount (c_Int_bitCount (gk C) h9) (by decide) (by decide) rfl rfl (Nat.le_of_ble_eq_true rfl) d_Seat_talk_40 ?_
      refine R_imul C d_Seat_talk_43 ?_
      refine R_isub C d_Seat_talk_44 ?_
      refine R_max C ml_Seat_128 sm_Math_max in_Math co_Math_max (by decide) (Nat.le_of_ble_eq_true rfl) d_Seat_talk_45 ?_
      refine R_nm (fun x10 => ?_)
      refine R_istore C (lv' := [(4, .int x10), (3, .int v4), (0, .ref (q.2.2.1 this)), (1, .int a1), (2, .int a2)]) d_Seat_talk_48 (by decide) rfl ?_
      refine R_iload_n C 1 d_Seat_talk_50 rfl rfl ?_
      refine R_if_ne C d_Seat_talk_51 (tgt := 59) (by decide) ?_ ?_
      · skip
        refine R_iload C 0 d_Seat_talk_59 rfl ?_
        refine R_bipush C d_Seat_talk_61 (v := 99) (by decide +kernel) ?_
        refine R_aload_n C 2 d_Seat_talk_63 rfl rfl ?_
        refine gf_Seat_wear C h_this fl_Seat_65 d_Seat_talk_64 ?_
        refine R_iload_n C 4 d_Seat_talk_67 rfl rfl ?_
        refine R_iadd C d_Seat_talk_68 ?_
        refine R_min C ml_Seat_133 sm_Math_min in_Math co_Math_min (by decide) (Nat.le_of_ble_eq_true rfl) d_Seat_talk_69 ?_
        refine R_nm (fun x11 => ?_)
        refine R_aload_n C 2 d_Seat_talk_72 rfl rfl ?_
        refine gf_Seat_wears C h_this fl_Seat_9 d_Seat_talk_73 ?_
        refine R_bind (fun v12 h13 => ?_)
        refine R_callSN C cf_BT_cut (C.2.2.2.2.2.2.2.1.2.2.2.2.2.2.2) sm_BT_cut (c_BT_cut (gk C) h13) (by decide) (by decide) rfl rfl (Nat.le_of_ble_eq_true rfl) d_Seat_talk_76 ?_
        refine R_iadd C d_Seat_talk_79 ?_
        exact R_iret C rfl d_Seat_talk_80
      · skip
        refine R_iload C 0 d_Seat_talk_54 rfl ?_
        refine R_goto C d_Seat_talk_56 (tgt := 80) (by decide) ?_
        exact R_iret C rfl d_Seat_talk_80
    · skip
      refine R_iconst C d_Seat_talk_18 (v := 0) (by decide +kernel) ?_
      exact R_iret C rfl d_Seat_talk_19
theorem c_Seat_talk {q : QT} (hg : GOk sdX q) {this : Nat} {a1 : Int32} {a2 : Int32} {μ : Mm} {ν : Ml} (h_this : this ∈ seats) {o : Int32} (ho : F_Seat_talk this a1 a2 μ = some o) : Ct sdX q y_Seat_talk prog_7_method_14_code 5 (some (FieldType.int)) 4 [.ref (q.2.2.1 this), .int a1, .int a2] μ ν ((φI μ ν) o).1 ((φI μ ν) o).2.1 ((φI μ ν) o).2.2 := Ct_of rfl hg (fun z C => w_Seat_talk C h_this) (Nat.le_of_ble_eq_true rfl) ho
def F_Tom_chats (this : Nat) (a2 : Int32) (μ : Mm) : Option (Int32 × Mm) := (F_Trace_begins 51 μ).bind fun μ1 => (F_Talk_chats this (a2 + 1) μ1).bind fun p_ => match p_ with | (v3, μ4) => some (v3, μ4)
theorem d_Tom_chats_0 : decode prog_11_method_5_code 0 = .ok (.aload_n 1, 1) := by decide +kernel
theorem d_Tom_chats_1 : decode prog_11_method_5_code 1 = .ok (.bipush 51, 2) := by decide +kernel
theorem d_Tom_chats_3 : decode prog_11_method_5_code 3 = .ok (.invokevirtual 15, 3) := by decide +kernel
theorem d_Tom_chats_6 : decode prog_11_method_5_code 6 = .ok (.aload_n 0, 1) := by decide +kernel
theorem d_Tom_chats_7 : decode prog_11_method_5_code 7 = .ok (.aload_n 1, 1) := by decide +kernel
theorem d_Tom_chats_8 : decode prog_11_method_5_code 8 = .ok (.iload_n 2, 1) := by decide +kernel
theorem d_Tom_chats_9 : decode prog_11_method_5_code 9 = .ok (.iconst 1, 1) := by decide +kernel
theorem d_Tom_chats_10 : decode prog_11_method_5_code 10 = .ok (.iadd, 1) := by decide +kernel
theorem d_Tom_chats_11 : decode prog_11_method_5_code 11 = .ok (.invokespecial 25, 3) := by decide +kernel
theorem d_Tom_chats_14 : decode prog_11_method_5_code 14 = .ok (.ireturn, 1) := by decide +kernel
set_option maxRecDepth 10000 in
set_option maxHeartbeats 4000000 in
theorem w_Tom_chats {q : QT} {z : ZT} {this : Nat} {a2 : Int32} {μ : Mm} {ν : Ml} (C : Ctx sdX q z prog_11_method_5_code "BesideTom$TomKind" 3 5 (some (FieldType.int))) (h_this : this ∈ kd_Tom) : R sdX q z 3 (φIm ν) (F_Tom_chats this a2 μ) μ ν 0 [(0, .ref (q.2.2.1 this)), (1, .ref (q.2.2.1 11)), (2, .int a2)] [] := by
  unfold F_Tom_chats
  refine R_aload_n C 1 d_Tom_chats_0 rfl rfl ?_
  refine R_bipush C d_Tom_chats_1 (v := 51) (by decide +kernel) ?_
  refine R_bind (fun μ1 h2 => ?_)
  refine R_callV C xm_11 (xc_11 q _ _) rfl cf_Trace_begins rfl ml_Tom_15 im_Trace_begins sl_Trace_Trace_begins_Trace_begins (c_Trace_begins (gk C) h2) (by decide) (by decide) rfl rfl (Nat.le_of_ble_eq_true rfl) d_Tom_chats_3 ?_
  refine R_aload_n C 0 d_Tom_chats_6 rfl rfl ?_
  refine R_aload_n C 1 d_Tom_chats_7 rfl rfl ?_
  refine R_iload_n C 2 d_Tom_chats_8 rfl rfl ?_
  refine R_iconst C d_Tom_chats_9 (v := 1) (by decide +kernel) ?_
  refine R_iadd C d_Tom_chats_10 ?_
  refine R_bind (fun r_ h5 => ?_)
  obtain ⟨v3, μ4⟩ := r_
  obtain ⟨ci_, Cn_, T_, N_, hq1_, hq2_⟩ := kc_0 (kdup (A := kd_Tom) (by decide) h_this) q (μ1 this) (ν this)
  refine R_callSU C (ke_0 (kdup (A := kd_Tom) (by decide) h_this)) hq1_ hq2_ cf_Talk_chats (by decide) ml_Tom_25 sa_Talk_Talk_chats su_Tom_Talk im_Talk_chats (c_Talk_chats (gk C) (kdup (A := kd_Tom) (by decide) h_this) h5) (by decide) (by decide) rfl rfl (Nat.le_of_ble_eq_true rfl) d_Tom_chats_11 ?_
  exact R_iret C rfl d_Tom_chats_14
theorem c_Tom_chats {q : QT} (hg : GOk sdX q) {this : Nat} {a2 : Int32} {μ : Mm} {ν : Ml} (h_this : this ∈ kd_Tom) {o : Int32 × Mm} (ho : F_Tom_chats this a2 μ = some o) : Ct sdX q y_Tom_chats prog_11_method_5_code 3 (some (FieldType.int)) 5 [.ref (q.2.2.1 this), .ref (q.2.2.1 11), .int a2] μ ν ((φIm ν) o).1 ((φIm ν) o).2.1 ((φIm ν) o).2.2 := Ct_of rfl hg (fun z C => w_Tom_chats C h_this) (Nat.le_of_ble_eq_true rfl) ho
def L_Seat_noise_4 (f3 : Nat) (f4 : Int32) (μ : Mm) (k : Int32 → Option (Int32)) : Nat → Int32 → Int32 → Option (Int32)
  | 0, _, _ => none
  | n + 1, s1, s2 => (if (μ f3 1) ≤ s2 then k s1 else (F_Seat_talk f3 s2 f4 μ).bind fun v5 => L_Seat_noise_4 f3 f4 μ k n (s1 + v5) (s2 + 1))
def F_Seat_noise (this : Nat) (a1 : Int32) (μ : Mm) : Option (Int32) := L_Seat_noise_4 this a1 μ (fun (x7 : Int32) => some x7) fu 0 0
theorem d_Seat_noise_0 : decode prog_7_method_15_code 0 = .ok (.iconst 0, 1) := by decide +kernel
theorem d_Seat_noise_1 : decode prog_7_method_15_code 1 = .ok (.istore_n 2, 1) := by decide +kernel
theorem d_Seat_noise_2 : decode prog_7_method_15_code 2 = .ok (.iconst 0, 1) := by decide +kernel
theorem d_Seat_noise_3 : decode prog_7_method_15_code 3 = .ok (.istore_n 3, 1) := by decide +kernel
theorem d_Seat_noise_4 : decode prog_7_method_15_code 4 = .ok (.iload_n 3, 1) := by decide +kernel
theorem d_Seat_noise_5 : decode prog_7_method_15_code 5 = .ok (.aload_n 0, 1) := by decide +kernel
theorem d_Seat_noise_12 : decode prog_7_method_15_code 12 = .ok (.iload_n 2, 1) := by decide +kernel
theorem d_Seat_noise_13 : decode prog_7_method_15_code 13 = .ok (.aload_n 0, 1) := by decide +kernel
theorem d_Seat_noise_14 : decode prog_7_method_15_code 14 = .ok (.iload_n 3, 1) := by decide +kernel
theorem d_Seat_noise_15 : decode prog_7_method_15_code 15 = .ok (.iload_n 1, 1) := by decide +kernel
theorem d_Seat_noise_16 : decode prog_7_method_15_code 16 = .ok (.invokevirtual 139, 3) := by decide +kernel
theorem d_Seat_noise_19 : decode prog_7_method_15_code 19 = .ok (.iadd, 1) := by decide +kernel
theorem d_Seat_noise_20 : decode prog_7_method_15_code 20 = .ok (.istore_n 2, 1) := by decide +kernel
theorem d_Seat_noise_21 : decode prog_7_method_15_code 21 = .ok (.iinc 3 1, 3) := by decide +kernel
theorem d_Seat_noise_24 : decode prog_7_method_15_code 24 = .ok (.goto (-20), 3) := by decide +kernel
theorem d_Seat_noise_9 : decode prog_7_method_15_code 9 = .ok (.if_icmp .ge 18, 3) := by decide +kernel
theorem d_Seat_noise_6 : decode prog_7_method_15_code 6 = .ok (.getfield 59, 3) := by decide +kernel
set_option maxRecDepth 10000 in
set_option maxHeartbeats 4000000 in
theorem W_Seat_noise_4 {q : QT} {z : ZT} {μ : Mm} {ν : Ml} {f3 : Nat} {f4 : Int32} {k : Int32 → Option (Int32)} (C : Ctx sdX q z prog_7_method_15_code "BesideTom$Seating" 4 5 (some (FieldType.int))) (h_f3 : f3 ∈ seats) (hk : ∀ (e0_ : Int32), R sdX q z 4 (φI μ ν) (k e0_) μ ν 27 [(2, .int e0_)] []) : ∀ (n : Nat) (s1 : Int32) (s2 : Int32), R sdX q z 4 (φI μ ν) (L_Seat_noise_4 f3 f4 μ k n s1 s2) μ ν 4 [(2, .int s1), (3, .int s2), (0, .ref (q.2.2.1 f3)), (1, .int f4)] [] := by
  intro n
  induction n with
  | zero =>
    intros
    exact R_none
  | succ n ih =>
    intro s1 s2
    rw [L_Seat_noise_4]
    refine R_iload_n C 1 d_Seat_noise_4 rfl rfl ?_
    refine R_aload_n C 2 d_Seat_noise_5 rfl rfl ?_
    refine gf_Seat_many C h_f3 fl_Seat_59 d_Seat_noise_6 ?_
    refine R_icmp_ge C d_Seat_noise_9 (tgt := 27) (by decide) ?_ ?_
    · skip
      exact R_sub [0] rfl (hk s1)
    · skip
      refine R_iload_n C 0 d_Seat_noise_12 rfl rfl ?_
      refine R_aload_n C 2 d_Seat_noise_13 rfl rfl ?_
      refine R_iload_n C 1 d_Seat_noise_14 rfl rfl ?_
      refine R_iload_n C 3 d_Seat_noise_15 rfl rfl ?_
      refine R_bind (fun v5 h6 => ?_)
      refine R_callV C (se_0 h_f3) (sc_0 h_f3 q _ _) rfl cf_Seat_talk rfl ml_Seat_139 im_Seat_talk sl_Seat_Seat_talk_Seat_talk (c_Seat_talk (gk C) h_f3 h6) (by decide) (by decide) rfl rfl (Nat.le_of_ble_eq_true rfl) d_Seat_noise_16 ?_
      refine R_iadd C d_Seat_noise_19 ?_
      refine R_istore_n C (lv' := [(2, .int (s1 + v5)), (3, .int s2), (0, .ref (q.2.2.1 f3)), (1, .int f4)]) d_Seat_noise_20 rfl (by decide) rfl ?_
      refine R_iinc C 1 d_Seat_noise_21 rfl (iinc_v _ (v := 1) (by decide +kernel)) (lv' := [(3, .int (s2 + 1)), (2, .int (s1 + v5)), (0, .ref (q.2.2.1 f3)), (1, .int f4)]) (by decide) rfl ?_
      refine R_goto C d_Seat_noise_24 (tgt := 4) (by decide) ?_
      exact R_sub [1, 0, 2, 3] rfl (ih (s1 + v5) (s2 + 1))
theorem d_Seat_noise_27 : decode prog_7_method_15_code 27 = .ok (.iload_n 2, 1) := by decide +kernel
theorem d_Seat_noise_28 : decode prog_7_method_15_code 28 = .ok (.ireturn, 1) := by decide +kernel
set_option maxRecDepth 10000 in
set_option maxHeartbeats 4000000 in
theorem w_Seat_noise {q : QT} {z : ZT} {this : Nat} {a1 : Int32} {μ : Mm} {ν : Ml} (C : Ctx sdX q z prog_7_method_15_code "BesideTom$Seating" 4 5 (some (FieldType.int))) (h_this : this ∈ seats) : R sdX q z 4 (φI μ ν) (F_Seat_noise this a1 μ) μ ν 0 [(0, .ref (q.2.2.1 this)), (1, .int a1)] [] := by
  unfold F_Seat_noise
  refine R_iconst C d_Seat_noise_0 (v := 0) (by decide +kernel) ?_
  refine R_istore_n C (lv' := [(2, .int 0), (0, .ref (q.2.2.1 this)), (1, .int a1)]) d_Seat_noise_1 rfl (by decide) rfl ?_
  refine R_iconst C d_Seat_noise_2 (v := 0) (by decide +kernel) ?_
  refine R_istore_n C (lv' := [(3, .int 0), (2, .int 0), (0, .ref (q.2.2.1 this)), (1, .int a1)]) d_Seat_noise_3 rfl (by decide) rfl ?_
  refine R_sub [1, 0, 2, 3] rfl ?_
  refine W_Seat_noise_4 C h_this ?_ fu _ _
  intro x7
  refine R_iload_n C 0 d_Seat_noise_27 rfl rfl ?_
  exact R_iret C rfl d_Seat_noise_28
theorem c_Seat_noise {q : QT} (hg : GOk sdX q) {this : Nat} {a1 : Int32} {μ : Mm} {ν : Ml} (h_this : this ∈ seats) {o : Int32} (ho : F_Seat_noise this a1 μ = some o) : Ct sdX q y_Seat_noise prog_7_method_15_code 4 (some (FieldType.int)) 5 [.ref (q.2.2.1 this), .int a1] μ ν ((φI μ ν) o).1 ((φI μ ν) o).2.1 ((φI μ ν) o).2.2 := Ct_of rfl hg (fun z C => w_Seat_noise C h_this) (Nat.le_of_ble_eq_true rfl) ho
def L_Rooms_word_15 (f6 : Int32) (f7 : Int32) (μ : Mm) (k : Int32 → Option (Int32 × Mm)) : Nat → Int32 → Int32 → Option (Int32 × Mm)
  | 0, _, _ => none
  | n + 1, s4, s5 => (if 4 ≤ s5 then k s4 else (F_Str_charAt ((s5 * 4) + f7)).bind fun v8 => jn (α := Int32) (fun K12 => (if v8 = (μ 1 5) then lt_ (s4 ||| (1 <<< (s5 &&& 31))) fun x10 => K12 x10 else K12 s4)) (fun (j11 : Int32) => L_Rooms_word_15 f6 f7 μ k n j11 (s5 + 1)))
def L_Rooms_word_5 (k : Mm → Option (Int32 × Mm)) : Nat → Int32 → Int32 → Mm → Option (Int32 × Mm)
  | 0, _, _, _ => none
  | n + 1, s1, s2, μ3 => (if 4 ≤ s2 then some (s1, μ3) else L_Rooms_word_15 s1 s2 μ3 (fun (x13 : Int32) => (if (s1 &&& x13) = 0 then k μ3 else (F_Rooms_steps μ3).bind fun μ14 => L_Rooms_word_5 k n (s1 &&& x13) (s2 + 1) μ14)) fu 0 0)
def F_Rooms_word (μ : Mm) : Option (Int32 × Mm) := L_Rooms_word_5 (fun (μ16 : Mm) => (F_Rooms_fails μ16).bind fun μ17 => some (0, μ17)) fu 15 0 μ
theorem d_Rooms_word_0 : decode prog_5_method_13_code 0 = .ok (.bipush 15, 2) := by decide +kernel
theorem d_Rooms_word_2 : decode prog_5_method_13_code 2 = .ok (.istore_n 1, 1) := by decide +kernel
theorem d_Rooms_word_3 : decode prog_5_method_13_code 3 = .ok (.iconst 0, 1) := by decide +kernel
theorem d_Rooms_word_4 : decode prog_5_method_13_code 4 = .ok (.istore_n 2, 1) := by decide +kernel
theorem d_Rooms_word_5 : decode prog_5_method_13_code 5 = .ok (.iload_n 2, 1) := by decide +kernel
theorem d_Rooms_word_6 : decode prog_5_method_13_code 6 = .ok (.iconst 4, 1) := by decide +kernel
theorem d_Rooms_word_76 : decode prog_5_method_13_code 76 = .ok (.iload_n 1, 1) := by decide +kernel
theorem d_Rooms_word_77 : decode prog_5_method_13_code 77 = .ok (.ireturn, 1) := by decide +kernel
theorem d_Rooms_word_10 : decode prog_5_method_13_code 10 = .ok (.iconst 0, 1) := by decide +kernel
theorem d_Rooms_word_11 : decode prog_5_method_13_code 11 = .ok (.istore_n 3, 1) := by decide +kernel
theorem d_Rooms_word_12 : decode prog_5_method_13_code 12 = .ok (.iconst 0, 1) := by decide +kernel
theorem d_Rooms_word_13 : decode prog_5_method_13_code 13 = .ok (.istore 4, 2) := by decide +kernel
theorem d_Rooms_word_15 : decode prog_5_method_13_code 15 = .ok (.iload 4, 2) := by decide +kernel
theorem d_Rooms_word_17 : decode prog_5_method_13_code 17 = .ok (.iconst 4, 1) := by decide +kernel
theorem d_Rooms_word_21 : decode prog_5_method_13_code 21 = .ok (.ldc 107, 2) := by decide +kernel
theorem d_Rooms_word_23 : decode prog_5_method_13_code 23 = .ok (.iload 4, 2) := by decide +kernel
theorem d_Rooms_word_25 : decode prog_5_method_13_code 25 = .ok (.iconst 4, 1) := by decide +kernel
theorem d_Rooms_word_26 : decode prog_5_method_13_code 26 = .ok (.imul, 1) := by decide +kernel
theorem d_Rooms_word_27 : decode prog_5_method_13_code 27 = .ok (.iload_n 2, 1) := by decide +kernel
theorem d_Rooms_word_28 : decode prog_5_method_13_code 28 = .ok (.iadd, 1) := by decide +kernel
theorem d_Rooms_word_29 : decode prog_5_method_13_code 29 = .ok (.invokevirtual 109, 3) := by decide +kernel
theorem d_Rooms_word_32 : decode prog_5_method_13_code 32 = .ok (.aload_n 0, 1) := by decide +kernel
theorem d_Rooms_word_39 : decode prog_5_method_13_code 39 = .ok (.iload_n 3, 1) := by decide +kernel
theorem d_Rooms_word_40 : decode prog_5_method_13_code 40 = .ok (.iconst 1, 1) := by decide +kernel
theorem d_Rooms_word_41 : decode prog_5_method_13_code 41 = .ok (.iload 4, 2) := by decide +kernel
theorem d_Rooms_word_43 : decode prog_5_method_13_code 43 = .ok (.ishl, 1) := by decide +kernel
theorem d_Rooms_word_44 : decode prog_5_method_13_code 44 = .ok (.ior, 1) := by decide +kernel
theorem d_Rooms_word_45 : decode prog_5_method_13_code 45 = .ok (.istore_n 3, 1) := by decide +kernel
theorem d_Rooms_word_36 : decode prog_5_method_13_code 36 = .ok (.if_icmp .ne 10, 3) := by decide +kernel
theorem d_Rooms_word_46 : decode prog_5_method_13_code 46 = .ok (.iinc 4 1, 3) := by decide +kernel
theorem d_Rooms_word_49 : decode prog_5_method_13_code 49 = .ok (.goto (-34), 3) := by decide +kernel
theorem d_Rooms_word_33 : decode prog_5_method_13_code 33 = .ok (.getfield 46, 3) := by decide +kernel
theorem d_Rooms_word_18 : decode prog_5_method_13_code 18 = .ok (.if_icmp .ge 34, 3) := by decide +kernel
set_option maxRecDepth 10000 in
set_option maxHeartbeats 4000000 in
theorem W_Rooms_word_15 {q : QT} {z : ZT} {μ : Mm} {ν : Ml} {f6 : Int32} {f7 : Int32} {k : Int32 → Option (Int32 × Mm)} (C : Ctx sdX q z prog_5_method_13_code "BesideTom$Rooms" 5 5 (some (FieldType.int))) (hk : ∀ (e0_ : Int32), R sdX q z 5 (φIm ν) (k e0_) μ ν 52 [(0, .ref (q.2.2.1 1)), (1, .int f6), (2, .int f7), (3, .int e0_)] []) : ∀ (n : Nat) (s4 : Int32) (s5 : Int32), R sdX q z 5 (φIm ν) (L_Rooms_word_15 f6 f7 μ k n s4 s5) μ ν 15 [(3, .int s4), (4, .int s5), (0, .ref (q.2.2.1 1)), (1, .int f6), (2, .int f7)] [] := by
  intro n
  induction n with
  | zero =>
    intros
    exact R_none
  | succ n ih =>
    intro s4 s5
    rw [L_Rooms_word_15]
    refine R_iload C 1 d_Rooms_word_15 rfl ?_
    refine R_iconst C d_Rooms_word_17 (v := 4) (by decide +kernel) ?_
    refine R_icmp_ge C d_Rooms_word_18 (tgt := 52) (by decide) ?_ ?_
    · skip
      exact R_sub [2, 3, 4, 0] rfl (hk s4)
    · skip
      refine R_ldcS C d_Rooms_word_21 ?_
      refine R_iload C 1 d_Rooms_word_23 rfl ?_
      refine R_iconst C d_Rooms_word_25 (v := 4) (by decide +kernel) ?_
      refine R_imul C d_Rooms_word_26 ?_
      refine R_iload_n C 4 d_Rooms_word_27 rfl rfl ?_
      refine R_iadd C d_Rooms_word_28 ?_
      refine R_bind (fun v8 h9 => ?_)
      refine R_charAt C ml_Rooms_109 h9 (by decide) (Nat.le_of_ble_eq_true rfl) d_Rooms_word_29 ?_
      refine R_aload_n C 2 d_Rooms_word_32 rfl rfl ?_
      refine gf_Rooms_sign C fl_Rooms_46 d_Rooms_word_33 ?_
      refine R_jn (fun K12 => ∀ (j11 : Int32), R sdX q z 5 (φIm ν) (K12 j11) μ ν 46 [(0, .ref (q.2.2.1 1)), (1, .int f6), (2, .int f7), (3, .int j11), (4, .int s5)] []) ?_ (fun K12 hK12 => ?_)
      · intro j11
        refine R_iinc C 4 d_Rooms_word_46 rfl (iinc_v _ (v := 1) (by decide +kernel)) (lv' := [(4, .int (s5 + 1)), (0, .ref (q.2.2.1 1)), (1, .int f6), (2, .int f7), (3, .int j11)]) (by decide) rfl ?_
        refine R_goto C d_Rooms_word_49 (tgt := 15) (by decide) ?_
        exact R_sub [4, 0, 1, 2, 3] rfl (ih j11 (s5 + 1))
      · skip
        refine R_icmp_ne C d_Rooms_word_36 (tgt := 46) (by decide) ?_ ?_
        · skip
          exact R_sub [2, 3, 4, 0, 1] rfl (hK12 s4)
        · skip
          refine R_iload_n C 0 d_Rooms_word_39 rfl rfl ?_
          refine R_iconst C d_Rooms_word_40 (v := 1) (by decide +kernel) ?_
          refine R_iload C 1 d_Rooms_word_41 rfl ?_
          refine R_ishl C d_Rooms_word_43 ?_
          refine R_ior C d_Rooms_word_44 ?_
          refine R_nm (fun x10 => ?_)
          refine R_istore_n C (lv' := [(3, .int x10), (4, .int s5), (0, .ref (q.2.2.1 1)), (1, .int f6), (2, .int f7)]) d_Rooms_word_45 rfl (by decide) rfl ?_
          exact R_sub [2, 3, 4, 0, 1] rfl (hK12 x10)
theorem d_Rooms_word_52 : decode prog_5_method_13_code 52 = .ok (.iload_n 1, 1) := by decide +kernel
theorem d_Rooms_word_53 : decode prog_5_method_13_code 53 = .ok (.iload_n 3, 1) := by decide +kernel
theorem d_Rooms_word_54 : decode prog_5_method_13_code 54 = .ok (.iand, 1) := by decide +kernel
theorem d_Rooms_word_55 : decode prog_5_method_13_code 55 = .ok (.istore_n 1, 1) := by decide +kernel
theorem d_Rooms_word_56 : decode prog_5_method_13_code 56 = .ok (.iload_n 1, 1) := by decide +kernel
theorem d_Rooms_word_66 : decode prog_5_method_13_code 66 = .ok (.aload_n 0, 1) := by decide +kernel
theorem d_Rooms_word_67 : decode prog_5_method_13_code 67 = .ok (.invokevirtual 49, 3) := by decide +kernel
theorem d_Rooms_word_70 : decode prog_5_method_13_code 70 = .ok (.iinc 2 1, 3) := by decide +kernel
theorem d_Rooms_word_73 : decode prog_5_method_13_code 73 = .ok (.goto (-68), 3) := by decide +kernel
theorem d_Rooms_word_57 : decode prog_5_method_13_code 57 = .ok (.ifCond .ne 9, 3) := by decide +kernel
theorem d_Rooms_word_7 : decode prog_5_method_13_code 7 = .ok (.if_icmp .ge 69, 3) := by decide +kernel
set_option maxRecDepth 10000 in
set_option maxHeartbeats 4000000 in
theorem W_Rooms_word_5 {q : QT} {z : ZT} {ν : Ml} {k : Mm → Option (Int32 × Mm)} (C : Ctx sdX q z prog_5_method_13_code "BesideTom$Rooms" 5 5 (some (FieldType.int))) (hk : ∀ (me_ : Mm), R sdX q z 5 (φIm ν) (k me_) me_ ν 60 [(0, .ref (q.2.2.1 1))] []) : ∀ (n : Nat) (s1 : Int32) (s2 : Int32) (μ3 : Mm), R sdX q z 5 (φIm ν) (L_Rooms_word_5 k n s1 s2 μ3) μ3 ν 5 [(1, .int s1), (2, .int s2), (0, .ref (q.2.2.1 1))] [] := by
  intro n
  induction n with
  | zero =>
    intros
    exact R_none
  | succ n ih =>
    intro s1 s2 μ3
    rw [L_Rooms_word_5]
    refine R_iload_n C 1 d_Rooms_word_5 rfl rfl ?_
    refine R_iconst C d_Rooms_word_6 (v := 4) (by decide +kernel) ?_
    refine R_icmp_ge C d_Rooms_word_7 (tgt := 76) (by decide) ?_ ?_
    · skip
      refine R_iload_n C 0 d_Rooms_word_76 rfl rfl ?_
      exact R_iret C rfl d_Rooms_word_77
    · skip
      refine R_iconst C d_Rooms_word_10 (v := 0) (by decide +kernel) ?_
      refine R_istore_n C (lv' := [(3, .int 0), (1, .int s1), (2, .int s2), (0, .ref (q.2.2.1 1))]) d_Rooms_word_11 rfl (by decide) rfl ?_
      refine R_iconst C d_Rooms_word_12 (v := 0) (by decide +kernel) ?_
      refine R_istore C (lv' := [(4, .int 0), (3, .int 0), (1, .int s1), (2, .int s2), (0, .ref (q.2.2.1 1))]) d_Rooms_word_13 (by decide) rfl ?_
      refine R_sub [1, 0, 4, 2, 3] rfl ?_
      refine W_Rooms_word_15 C ?_ fu _ _
      intro x13
      refine R_iload_n C 1 d_Rooms_word_52 rfl rfl ?_
      refine R_iload_n C 3 d_Rooms_word_53 rfl rfl ?_
      refine R_iand C d_Rooms_word_54 ?_
      refine R_istore_n C (lv' := [(1, .int (s1 &&& x13)), (0, .ref (q.2.2.1 1)), (2, .int s2), (3, .int x13)]) d_Rooms_word_55 rfl (by decide) rfl ?_
      refine R_iload_n C 0 d_Rooms_word_56 rfl rfl ?_
      refine R_if_ne C d_Rooms_word_57 (tgt := 66) (by decide) ?_ ?_
      · skip
        refine R_aload_n C 1 d_Rooms_word_66 rfl rfl ?_
        refine R_bind (fun μ14 h15 => ?_)
        refine R_callV C xm_1 (xc_1 q _ _) rfl cf_Rooms_steps rfl ml_Rooms_49 im_Rooms_steps sl_Rooms_Rooms_steps_Rooms_steps (c_Rooms_steps (gk C) h15) (by decide) (by decide) rfl rfl (Nat.le_of_ble_eq_true rfl) d_Rooms_word_67 ?_
        refine R_iinc C 2 d_Rooms_word_70 rfl (iinc_v _ (v := 1) (by decide +kernel)) (lv' := [(2, .int (s2 + 1)), (1, .int (s1 &&& x13)), (0, .ref (q.2.2.1 1)), (3, .int x13)]) (by decide) rfl ?_
        refine R_goto C d_Rooms_word_73 (tgt := 5) (by decide) ?_
        exact R_sub [1, 0, 2] rfl (ih (s1 &&& x13) (s2 + 1) μ14)
      · skip
        exact R_sub [1] rfl (hk μ3)
theorem d_Rooms_word_60 : decode prog_5_method_13_code 60 = .ok (.aload_n 0, 1) := by decide +kernel
theorem d_Rooms_word_61 : decode prog_5_method_13_code 61 = .ok (.invokevirtual 55, 3) := by decide +kernel
theorem d_Rooms_word_64 : decode prog_5_method_13_code 64 = .ok (.iconst 0, 1) := by decide +kernel
theorem d_Rooms_word_65 : decode prog_5_method_13_code 65 = .ok (.ireturn, 1) := by decide +kernel
set_option maxRecDepth 10000 in
set_option maxHeartbeats 4000000 in
theorem w_Rooms_word {q : QT} {z : ZT} {μ : Mm} {ν : Ml} (C : Ctx sdX q z prog_5_method_13_code "BesideTom$Rooms" 5 5 (some (FieldType.int))) : R sdX q z 5 (φIm ν) (F_Rooms_word μ) μ ν 0 [(0, .ref (q.2.2.1 1))] [] := by
  unfold F_Rooms_word
  refine R_bipush C d_Rooms_word_0 (v := 15) (by decide +kernel) ?_
  refine R_istore_n C (lv' := [(1, .int 15), (0, .ref (q.2.2.1 1))]) d_Rooms_word_2 rfl (by decide) rfl ?_
  refine R_iconst C d_Rooms_word_3 (v := 0) (by decide +kernel) ?_
  refine R_istore_n C (lv' := [(2, .int 0), (1, .int 15), (0, .ref (q.2.2.1 1))]) d_Rooms_word_4 rfl (by decide) rfl ?_
  refine R_sub [1, 0, 2] rfl ?_
  refine W_Rooms_word_5 C ?_ fu _ _ _
  intro μ16
  refine R_aload_n C 0 d_Rooms_word_60 rfl rfl ?_
  refine R_bind (fun μ17 h18 => ?_)
  refine R_callV C xm_1 (xc_1 q _ _) rfl cf_Rooms_fails rfl ml_Rooms_55 im_Rooms_fails sl_Rooms_Rooms_fails_Rooms_fails (c_Rooms_fails (gk C) h18) (by decide) (by decide) rfl rfl (Nat.le_of_ble_eq_true rfl) d_Rooms_word_61 ?_
  refine R_iconst C d_Rooms_word_64 (v := 0) (by decide +kernel) ?_
  exact R_iret C rfl d_Rooms_word_65
theorem c_Rooms_word {q : QT} (hg : GOk sdX q) {μ : Mm} {ν : Ml} {o : Int32 × Mm} (ho : F_Rooms_word μ = some o) : Ct sdX q y_Rooms_word prog_5_method_13_code 5 (some (FieldType.int)) 5 [.ref (q.2.2.1 1)] μ ν ((φIm ν) o).1 ((φIm ν) o).2.1 ((φIm ν) o).2.2 := Ct_of rfl hg (fun z C => w_Rooms_word C) (Nat.le_of_ble_eq_true rfl) ho
section VV
variable {β : Type} {q : QT} {z : ZT} {cc : ByteArray} {own : String} {nL rk : Nat} {ret : Option FieldType} {φ : β → Option Value × Mm × Ml} {f : Option β} {μ : Mm} {ν : Ml} {pc : Nat} {lv : List (Nat × Value)} {st : List Value}
def V_chats (b : Nat) (a2 : Int32) (μ : Mm) : Option (Int32 × Mm) := if b = 24 then F_PK_chats b a2 μ else if b = 25 then F_Talk_chats b a2 μ else if b = 26 then F_PK_chats b a2 μ else if b = 27 then F_PK_chats b a2 μ else if b = 28 then F_Tom_chats b a2 μ else if b = 29 then F_PK_chats b a2 μ else if b = 30 then F_Told_chats b a2 μ else none
set_option maxRecDepth 10000 in
theorem Vchats_PK_c (C : Ctx sdX q z cc own nL rk ret) {b index : Nat} (h : b ∈ kd_PK) (hm : Cond.methodLink own index y_PK_chats ∈ gW) {a2 : Int32} {r : Int32 × Mm} (hr : V_chats b a2 μ = some r) (hrk : 5 + 1 ≤ rk) (hw : (st.map fun v => v.category).sum ≤ 8) (hd : decode cc pc = .ok (.invokevirtual index, 3)) (k : R sdX q z nL φ f r.2 ν (pc + 3) lv (.int r.1 :: st)) : R sdX q z nL φ f μ ν pc lv (.int a2 :: .ref (q.2.2.1 11) :: .ref (q.2.2.1 b) :: st) := by
  rcases List.mem_cons.mp h with rfl | h
  · have hr2 : F_PK_chats 24 a2 μ = some r := hr
    exact R_callU C xm_24 (xc_24 q _ _) rfl cf_PK_chats (owner := "BesideTom$PupilKind") (x := y_PK_chats) cf_PK_chats cf_PK_chats.2.2.2 hm sa_PK_PK_chats im_PK_chats sl_PK_PK_chats_PK_chats im_PK_chats (c_PK_chats (gk C) (by decide) hr2) (Nat.le_trans (by decide) hrk) (by decide) (As := [.ref (q.2.2.1 11), .int a2]) rfl rfl hw hd k
  rcases List.mem_cons.mp h with rfl | h
  · have hr2 : F_Talk_chats 25 a2 μ = some r := hr
    exact R_callU C xm_25 (xc_25 q _ _) rfl cf_Talk_chats (owner := "BesideTom$PupilKind") (x := y_PK_chats) cf_PK_chats cf_PK_chats.2.2.2 hm sa_PK_PK_chats im_PK_chats sl_Talk_PK_chats_Talk_chats im_Talk_chats (c_Talk_chats (gk C) (by decide) hr2) (Nat.le_trans (by decide) hrk) (by decide) (As := [.ref (q.2.2.1 11), .int a2]) rfl rfl hw hd k
  rcases List.mem_cons.mp h with rfl | h
  · have hr2 : F_PK_chats 26 a2 μ = some r := hr
    exact R_callU C xm_26 (xc_26 q _ _) rfl cf_PK_chats (owner := "BesideTom$PupilKind") (x := y_PK_chats) cf_PK_chats cf_PK_chats.2.2.2 hm sa_PK_PK_chats im_PK_chats sl_Quiet_PK_chats_PK_chats im_PK_chats (c_PK_chats (gk C) (by decide) hr2) (Nat.le_trans (by decide) hrk) (by decide) (As := [.ref (q.2.2.1 11), .int a2]) rfl rfl hw hd k
  rcases List.mem_cons.mp h with rfl | h
  · have hr2 : F_PK_chats 27 a2 μ = some r := hr
    exact R_callU C xm_27 (xc_27 q _ _) rfl cf_PK_chats (owner := "BesideTom$PupilKind") (x := y_PK_chats) cf_PK_chats cf_PK_chats.2.2.2 hm sa_PK_PK_chats im_PK_chats sl_Short_PK_chats_PK_chats im_PK_chats (c_PK_chats (gk C) (by decide) hr2) (Nat.le_trans (by decide) hrk) (by decide) (As := [.ref (q.2.2.1 11), .int a2]) rfl rfl hw hd k
  rcases List.mem_cons.mp h with rfl | h
  · have hr2 : F_Tom_chats 28 a2 μ = some r := hr
    exact R_callU C xm_28 (xc_28 q _ _) rfl cf_Tom_chats (owner := "BesideTom$PupilKind") (x := y_PK_chats) cf_PK_chats cf_PK_chats.2.2.2 hm sa_PK_PK_chats im_PK_chats sl_Tom_PK_chats_Tom_chats im_Tom_chats (c_Tom_chats (gk C) (by decide) hr2) (Nat.le_trans (by decide) hrk) (by decide) (As := [.ref (q.2.2.1 11), .int a2]) rfl rfl hw hd k
  rcases List.mem_cons.mp h with rfl | h
  · have hr2 : F_PK_chats 29 a2 μ = some r := hr
    exact R_callU C xm_29 (xc_29 q _ _) rfl cf_PK_chats (owner := "BesideTom$PupilKind") (x := y_PK_chats) cf_PK_chats cf_PK_chats.2.2.2 hm sa_PK_PK_chats im_PK_chats sl_Cork_PK_chats_PK_chats im_PK_chats (c_PK_chats (gk C) (by decide) hr2) (Nat.le_trans (by decide) hrk) (by decide) (As := [.ref (q.2.2.1 11), .int a2]) rfl rfl hw hd k
  cases List.mem_singleton.mp h
  have hr2 : F_Told_chats 30 a2 μ = some r := hr
  exact R_callU C xm_30 (xc_30 q _ _) rfl cf_Told_chats (owner := "BesideTom$PupilKind") (x := y_PK_chats) cf_PK_chats cf_PK_chats.2.2.2 hm sa_PK_PK_chats im_PK_chats sl_Told_PK_chats_Told_chats im_Told_chats (c_Told_chats (gk C) (by decide) hr2) (Nat.le_trans (by decide) hrk) (by decide) (As := [.ref (q.2.2.1 11), .int a2]) rfl rfl hw hd k

set_option maxRecDepth 10000 in
theorem Vchats_Short_c (C : Ctx sdX q z cc own nL rk ret) {b index : Nat} (h : b ∈ kd_Short) (hm : Cond.methodLink own index y_Short_chats ∈ gW) {a2 : Int32} {r : Int32 × Mm} (hr : V_chats b a2 μ = some r) (hrk : 5 + 1 ≤ rk) (hw : (st.map fun v => v.category).sum ≤ 8) (hd : decode cc pc = .ok (.invokevirtual index, 3)) (k : R sdX q z nL φ f r.2 ν (pc + 3) lv (.int r.1 :: st)) : R sdX q z nL φ f μ ν pc lv (.int a2 :: .ref (q.2.2.1 11) :: .ref (q.2.2.1 b) :: st) := by
  rcases List.mem_cons.mp h with rfl | h
  · have hr2 : F_PK_chats 27 a2 μ = some r := hr
    exact R_callU C xm_27 (xc_27 q _ _) rfl cf_PK_chats (owner := "BesideTom$PupilKind") (x := y_Short_chats) cf_PK_chats cf_PK_chats.2.2.2 hm sa_Short_PK_chats im_PK_chats sl_Short_Short_chats_PK_chats im_PK_chats (c_PK_chats (gk C) (by decide) hr2) (Nat.le_trans (by decide) hrk) (by decide) (As := [.ref (q.2.2.1 11), .int a2]) rfl rfl hw hd k
  cases List.mem_singleton.mp h
  have hr2 : F_Told_chats 30 a2 μ = some r := hr
  exact R_callU C xm_30 (xc_30 q _ _) rfl cf_Told_chats (owner := "BesideTom$PupilKind") (x := y_Short_chats) cf_PK_chats cf_PK_chats.2.2.2 hm sa_Short_PK_chats im_PK_chats sl_Told_Short_chats_Told_chats im_Told_chats (c_Told_chats (gk C) (by decide) hr2) (Nat.le_trans (by decide) hrk) (by decide) (As := [.ref (q.2.2.1 11), .int a2]) rfl rfl hw hd k

end VV
def L_BT_change_34 (f12 : Int32) (k : Int32 → Int32 → Mm → Option (Int32 × Mm)) : Nat → Int32 → Int32 → Int32 → Mm → Option (Int32 × Mm)
  | 0, _, _, _, _ => none
  | n + 1, s9, s10, s11, μ13 => (if (μ13 60 1) ≤ s11 then k s9 s10 μ13 else (F_Seat_swaps 60 f12 s11 μ13).bind fun μ14 => (F_Seat_noise 60 0 μ14).bind fun v16 => (F_Seat_swaps 60 f12 s11 μ14).bind fun μ18 => jn (α := Int32 × Int32) (fun K22 => (if s9 ≤ v16 then K22 (s9, s10) else K22 (v16, ((10 * f12) + s11)))) (fun (p_ : Int32 × Int32) => match p_ with | (j20, j21) => L_BT_change_34 f12 k n j20 j21 (s11 + 1) μ18))
def L_BT_change_18 (k : Int32 → Mm → Option (Int32 × Mm)) : Nat → Int32 → Int32 → Int32 → Mm → Option (Int32 × Mm)
  | 0, _, _, _, _ => none
  | n + 1, s5, s6, s7, μ8 => (if (μ8 60 1) ≤ s7 then k s6 μ8 else L_BT_change_34 s7 (fun (x23 : Int32) (x24 : Int32) (μ25 : Mm) => L_BT_change_18 k n x23 x24 (s7 + 1) μ25) fu s5 s6 (s7 + 1) μ8)
def F_BT_change (μ : Mm) : Option (Int32 × Mm) := (F_Seat_noise 40 0 μ).bind fun v1 => (F_BT_plansFromNow μ).bind fun μ3 => L_BT_change_18 (fun (x26 : Int32) (μ27 : Mm) => some (x26, μ27)) fu v1 (-5) 0 μ3
theorem d_BT_change_0 : decode prog_1_method_21_code 0 = .ok (.aload_n 0, 1) := by decide +kernel
theorem d_BT_change_4 : decode prog_1_method_21_code 4 = .ok (.iconst 0, 1) := by decide +kernel
theorem d_BT_change_5 : decode prog_1_method_21_code 5 = .ok (.invokevirtual 124, 3) := by decide +kernel
theorem d_BT_change_8 : decode prog_1_method_21_code 8 = .ok (.istore_n 1, 1) := by decide +kernel
theorem d_BT_change_9 : decode prog_1_method_21_code 9 = .ok (.bipush (-5), 2) := by decide +kernel
theorem d_BT_change_11 : decode prog_1_method_21_code 11 = .ok (.istore_n 2, 1) := by decide +kernel
theorem d_BT_change_12 : decode prog_1_method_21_code 12 = .ok (.aload_n 0, 1) := by decide +kernel
theorem d_BT_change_13 : decode prog_1_method_21_code 13 = .ok (.invokevirtual 197, 3) := by decide +kernel
theorem d_BT_change_16 : decode prog_1_method_21_code 16 = .ok (.iconst 0, 1) := by decide +kernel
theorem d_BT_change_17 : decode prog_1_method_21_code 17 = .ok (.istore_n 3, 1) := by decide +kernel
theorem d_BT_change_18 : decode prog_1_method_21_code 18 = .ok (.iload_n 3, 1) := by decide +kernel
theorem d_BT_change_19 : decode prog_1_method_21_code 19 = .ok (.aload_n 0, 1) := by decide +kernel
theorem d_BT_change_29 : decode prog_1_method_21_code 29 = .ok (.iload_n 3, 1) := by decide +kernel
theorem d_BT_change_30 : decode prog_1_method_21_code 30 = .ok (.iconst 1, 1) := by decide +kernel
theorem d_BT_change_31 : decode prog_1_method_21_code 31 = .ok (.iadd, 1) := by decide +kernel
theorem d_BT_change_32 : decode prog_1_method_21_code 32 = .ok (.istore 4, 2) := by decide +kernel
theorem d_BT_change_34 : decode prog_1_method_21_code 34 = .ok (.iload 4, 2) := by decide +kernel
theorem d_BT_change_36 : decode prog_1_method_21_code 36 = .ok (.aload_n 0, 1) := by decide +kernel
theorem d_BT_change_46 : decode prog_1_method_21_code 46 = .ok (.aload_n 0, 1) := by decide +kernel
theorem d_BT_change_50 : decode prog_1_method_21_code 50 = .ok (.iload_n 3, 1) := by decide +kernel
theorem d_BT_change_51 : decode prog_1_method_21_code 51 = .ok (.iload 4, 2) := by decide +kernel
theorem d_BT_change_53 : decode prog_1_method_21_code 53 = .ok (.invokevirtual 230, 3) := by decide +kernel
theorem d_BT_change_56 : decode prog_1_method_21_code 56 = .ok (.aload_n 0, 1) := by decide +kernel
theorem d_BT_change_60 : decode prog_1_method_21_code 60 = .ok (.iconst 0, 1) := by decide +kernel
theorem d_BT_change_61 : decode prog_1_method_21_code 61 = .ok (.invokevirtual 124, 3) := by decide +kernel
theorem d_BT_change_64 : decode prog_1_method_21_code 64 = .ok (.istore 5, 2) := by decide +kernel
theorem d_BT_change_66 : decode prog_1_method_21_code 66 = .ok (.aload_n 0, 1) := by decide +kernel
theorem d_BT_change_70 : decode prog_1_method_21_code 70 = .ok (.iload_n 3, 1) := by decide +kernel
theorem d_BT_change_71 : decode prog_1_method_21_code 71 = .ok (.iload 4, 2) := by decide +kernel
theorem d_BT_change_73 : decode prog_1_method_21_code 73 = .ok (.invokevirtual 230, 3) := by decide +kernel
theorem d_BT_change_76 : decode prog_1_method_21_code 76 = .ok (.iload 5, 2) := by decide +kernel
theorem d_BT_change_78 : decode prog_1_method_21_code 78 = .ok (.iload_n 1, 1) := by decide +kernel
theorem d_BT_change_82 : decode prog_1_method_21_code 82 = .ok (.iload 5, 2) := by decide +kernel
theorem d_BT_change_84 : decode prog_1_method_21_code 84 = .ok (.istore_n 1, 1) := by decide +kernel
theorem d_BT_change_85 : decode prog_1_method_21_code 85 = .ok (.bipush 10, 2) := by decide +kernel
theorem d_BT_change_87 : decode prog_1_method_21_code 87 = .ok (.iload_n 3, 1) := by decide +kernel
theorem d_BT_change_88 : decode prog_1_method_21_code 88 = .ok (.imul, 1) := by decide +kernel
theorem d_BT_change_89 : decode prog_1_method_21_code 89 = .ok (.iload 4, 2) := by decide +kernel
theorem d_BT_change_91 : decode prog_1_method_21_code 91 = .ok (.iadd, 1) := by decide +kernel
theorem d_BT_change_92 : decode prog_1_method_21_code 92 = .ok (.istore_n 2, 1) := by decide +kernel
theorem d_BT_change_79 : decode prog_1_method_21_code 79 = .ok (.if_icmp .ge 14, 3) := by decide +kernel
theorem d_BT_change_93 : decode prog_1_method_21_code 93 = .ok (.iinc 4 1, 3) := by decide +kernel
theorem d_BT_change_96 : decode prog_1_method_21_code 96 = .ok (.goto (-62), 3) := by decide +kernel
theorem d_BT_change_67 : decode prog_1_method_21_code 67 = .ok (.getfield 56, 3) := by decide +kernel
theorem d_BT_change_57 : decode prog_1_method_21_code 57 = .ok (.getfield 56, 3) := by decide +kernel
theorem d_BT_change_47 : decode prog_1_method_21_code 47 = .ok (.getfield 56, 3) := by decide +kernel
theorem d_BT_change_43 : decode prog_1_method_21_code 43 = .ok (.if_icmp .ge 56, 3) := by decide +kernel
theorem d_BT_change_40 : decode prog_1_method_21_code 40 = .ok (.getfield 80, 3) := by decide +kernel
theorem d_BT_change_37 : decode prog_1_method_21_code 37 = .ok (.getfield 56, 3) := by decide +kernel
set_option maxRecDepth 10000 in
set_option maxHeartbeats 4000000 in
theorem W_BT_change_34 {q : QT} {z : ZT} {ν : Ml} {f12 : Int32} {k : Int32 → Int32 → Mm → Option (Int32 × Mm)} (C : Ctx sdX q z prog_1_method_21_code "BesideTom" 6 6 (some (FieldType.int))) (hk : ∀ (e0_ : Int32) (e1_ : Int32) (me_ : Mm), R sdX q z 6 (φIm ν) (k e0_ e1_ me_) me_ ν 99 [(0, .ref (q.2.2.1 0)), (1, .int e0_), (2, .int e1_), (3, .int f12)] []) : ∀ (n : Nat) (s9 : Int32) (s10 : Int32) (s11 : Int32) (μ13 : Mm), R sdX q z 6 (φIm ν) (L_BT_change_34 f12 k n s9 s10 s11 μ13) μ13 ν 34 [(1, .int s9), (2, .int s10), (4, .int s11), (0, .ref (q.2.2.1 0)), (3, .int f12)] [] := by
  intro n
  induction n with
  | zero =>
    intros
    exact R_none
  | succ n ih =>
    intro s9 s10 s11 μ13
    rw [L_BT_change_34]
    refine R_iload C 2 d_BT_change_34 rfl ?_
    refine R_aload_n C 3 d_BT_change_36 rfl rfl ?_
    refine gf_BT_asked C fl_BT_56 d_BT_change_37 ?_
    refine gf_Seat_many C s60 fl_BT_80 d_BT_change_40 ?_
    refine R_icmp_ge C d_BT_change_43 (tgt := 99) (by decide) ?_ ?_
    · skip
      exact R_sub [3, 0, 1, 4] rfl (hk s9 s10 μ13)
    · skip
      refine R_aload_n C 3 d_BT_change_46 rfl rfl ?_
      refine gf_BT_asked C fl_BT_56 d_BT_change_47 ?_
      refine R_iload_n C 4 d_BT_change_50 rfl rfl ?_
      refine R_iload C 2 d_BT_change_51 rfl ?_
      refine R_bind (fun μ14 h15 => ?_)
      refine R_callV C (se_0 s60) (sc_0 s60 q _ _) rfl cf_Seat_swaps rfl ml_BT_230 im_Seat_swaps sl_Seat_Seat_swaps_Seat_swaps (c_Seat_swaps (gk C) s60 h15) (by decide) (by decide) rfl rfl (Nat.le_of_ble_eq_true rfl) d_BT_change_53 ?_
      refine R_aload_n C 3 d_BT_change_56 rfl rfl ?_
      refine gf_BT_asked C fl_BT_56 d_BT_change_57 ?_
      refine R_iconst C d_BT_change_60 (v := 0) (by decide +kernel) ?_
      refine R_bind (fun v16 h17 => ?_)
      refine R_callV C (se_0 s60) (sc_0 s60 q _ _) rfl cf_Seat_noise rfl ml_BT_124 im_Seat_noise sl_Seat_Seat_noise_Seat_noise (c_Seat_noise (gk C) s60 h17) (by decide) (by decide) rfl rfl (Nat.le_of_ble_eq_true rfl) d_BT_change_61 ?_
      refine R_istore C (lv' := [(5, .int v16), (1, .int s9), (2, .int s10), (4, .int s11), (0, .ref (q.2.2.1 0)), (3, .int f12)]) d_BT_change_64 (by decide) rfl ?_
      refine R_aload_n C 4 d_BT_change_66 rfl rfl ?_
      refine gf_BT_asked C fl_BT_56 d_BT_change_67 ?_
      refine R_iload_n C 5 d_BT_change_70 rfl rfl ?_
      refine R_iload C 3 d_BT_change_71 rfl ?_
      refine R_bind (fun μ18 h19 => ?_)
      refine R_callV C (se_0 s60) (sc_0 s60 q _ _) rfl cf_Seat_swaps rfl ml_BT_230 im_Seat_swaps sl_Seat_Seat_swaps_Seat_swaps (c_Seat_swaps (gk C) s60 h19) (by decide) (by decide) rfl rfl (Nat.le_of_ble_eq_true rfl) d_BT_change_73 ?_
      refine R_iload C 0 d_BT_change_76 rfl ?_
      refine R_iload_n C 1 d_BT_change_78 rfl rfl ?_
      refine R_jn (fun K22 => ∀ (j20 : Int32) (j21 : Int32), R sdX q z 6 (φIm ν) (K22 (j20, j21)) μ18 ν 93 [(0, .ref (q.2.2.1 0)), (1, .int j20), (2, .int j21), (3, .int f12), (4, .int s11)] []) ?_ (fun K22 hK22 => ?_)
      · intro j20 j21
        refine R_iinc C 4 d_BT_change_93 rfl (iinc_v _ (v := 1) (by decide +kernel)) (lv' := [(4, .int (s11 + 1)), (0, .ref (q.2.2.1 0)), (1, .int j20), (2, .int j21), (3, .int f12)]) (by decide) rfl ?_
        refine R_goto C d_BT_change_96 (tgt := 34) (by decide) ?_
        exact R_sub [2, 3, 0, 1, 4] rfl (ih j20 j21 (s11 + 1) μ18)
      · skip
        refine R_icmp_ge C d_BT_change_79 (tgt := 93) (by decide) ?_ ?_
        · skip
          exact R_sub [4, 1, 2, 5, 3] rfl (hK22 s9 s10)
        · skip
          refine R_iload C 0 d_BT_change_82 rfl ?_
          refine R_istore_n C (lv' := [(1, .int v16), (5, .int v16), (2, .int s10), (4, .int s11), (0, .ref (q.2.2.1 0)), (3, .int f12)]) d_BT_change_84 rfl (by decide) rfl ?_
          refine R_bipush C d_BT_change_85 (v := 10) (by decide +kernel) ?_
          refine R_iload_n C 5 d_BT_change_87 rfl rfl ?_
          refine R_imul C d_BT_change_88 ?_
          refine R_iload C 3 d_BT_change_89 rfl ?_
          refine R_iadd C d_BT_change_91 ?_
          refine R_istore_n C (lv' := [(2, .int ((10 * f12) + s11)), (1, .int v16), (5, .int v16), (4, .int s11), (0, .ref (q.2.2.1 0)), (3, .int f12)]) d_BT_change_92 rfl (by decide) rfl ?_
          exact R_sub [4, 1, 0, 5, 3] rfl (hK22 v16 ((10 * f12) + s11))
theorem d_BT_change_99 : decode prog_1_method_21_code 99 = .ok (.iinc 3 1, 3) := by decide +kernel
theorem d_BT_change_102 : decode prog_1_method_21_code 102 = .ok (.goto (-84), 3) := by decide +kernel
theorem d_BT_change_26 : decode prog_1_method_21_code 26 = .ok (.if_icmp .ge 79, 3) := by decide +kernel
theorem d_BT_change_23 : decode prog_1_method_21_code 23 = .ok (.getfield 80, 3) := by decide +kernel
theorem d_BT_change_20 : decode prog_1_method_21_code 20 = .ok (.getfield 56, 3) := by decide +kernel
set_option maxRecDepth 10000 in
set_option maxHeartbeats 4000000 in
theorem W_BT_change_18 {q : QT} {z : ZT} {ν : Ml} {k : Int32 → Mm → Option (Int32 × Mm)} (C : Ctx sdX q z prog_1_method_21_code "BesideTom" 6 6 (some (FieldType.int))) (hk : ∀ (e0_ : Int32) (me_ : Mm), R sdX q z 6 (φIm ν) (k e0_ me_) me_ ν 105 [(2, .int e0_)] []) : ∀ (n : Nat) (s5 : Int32) (s6 : Int32) (s7 : Int32) (μ8 : Mm), R sdX q z 6 (φIm ν) (L_BT_change_18 k n s5 s6 s7 μ8) μ8 ν 18 [(1, .int s5), (2, .int s6), (3, .int s7), (0, .ref (q.2.2.1 0))] [] := by
  intro n
  induction n with
  | zero =>
    intros
    exact R_none
  | succ n ih =>
    intro s5 s6 s7 μ8
    rw [L_BT_change_18]
    refine R_iload_n C 2 d_BT_change_18 rfl rfl ?_
    refine R_aload_n C 3 d_BT_change_19 rfl rfl ?_
    refine gf_BT_asked C fl_BT_56 d_BT_change_20 ?_
    refine gf_Seat_many C s60 fl_BT_80 d_BT_change_23 ?_
    refine R_icmp_ge C d_BT_change_26 (tgt := 105) (by decide) ?_ ?_
    · skip
      exact R_sub [1] rfl (hk s6 μ8)
    · skip
      refine R_iload_n C 2 d_BT_change_29 rfl rfl ?_
      refine R_iconst C d_BT_change_30 (v := 1) (by decide +kernel) ?_
      refine R_iadd C d_BT_change_31 ?_
      refine R_istore C (lv' := [(4, .int (s7 + 1)), (1, .int s5), (2, .int s6), (3, .int s7), (0, .ref (q.2.2.1 0))]) d_BT_change_32 (by decide) rfl ?_
      refine R_sub [1, 2, 0, 4, 3] rfl ?_
      refine W_BT_change_34 C ?_ fu _ _ _ _
      intro x23 x24 μ25
      refine R_iinc C 3 d_BT_change_99 rfl (iinc_v _ (v := 1) (by decide +kernel)) (lv' := [(3, .int (s7 + 1)), (0, .ref (q.2.2.1 0)), (1, .int x23), (2, .int x24)]) (by decide) rfl ?_
      refine R_goto C d_BT_change_102 (tgt := 18) (by decide) ?_
      exact R_sub [2, 3, 0, 1] rfl (ih x23 x24 (s7 + 1) μ25)
theorem d_BT_change_105 : decode prog_1_method_21_code 105 = .ok (.iload_n 2, 1) := by decide +kernel
theorem d_BT_change_106 : decode prog_1_method_21_code 106 = .ok (.ireturn, 1) := by decide +kernel
theorem d_BT_change_1 : decode prog_1_method_21_code 1 = .ok (.getfield 52, 3) := by decide +kernel
set_option maxRecDepth 10000 in
set_option maxHeartbeats 4000000 in
theorem w_BT_change {q : QT} {z : ZT} {μ : Mm} {ν : Ml} (C : Ctx sdX q z prog_1_method_21_code "BesideTom" 6 6 (some (FieldType.int))) : R sdX q z 6 (φIm ν) (F_BT_change μ) μ ν 0 [(0, .ref (q.2.2.1 0))] [] := by
  unfold F_BT_change
  refine R_aload_n C 0 d_BT_change_0 rfl rfl ?_
  refine gf_BT_now C fl_BT_52 d_BT_change_1 ?_
  refine R_iconst C d_BT_change_4 (v := 0) (by decide +kernel) ?_
  refine R_bind (fun v1 h2 => ?_)
  refine R_callV C (se_0 s40) (sc_0 s40 q _ _) rfl cf_Seat_noise rfl ml_BT_124 im_Seat_noise sl_Seat_Seat_noise_Seat_noise (c_Seat_noise (gk C) s40 h2) (by decide) (by decide) rfl rfl (Nat.le_of_ble_eq_true rfl) d_BT_change_5 ?_
  refine R_istore_n C (lv' := [(1, .int v1), (0, .ref (q.2.2.1 0))]) d_BT_change_8 rfl (by decide) rfl ?_
  refine R_bipush C d_BT_change_9 (v := (-5)) (by decide +kernel) ?_
  refine R_istore_n C (lv' := [(2, .int (-5)), (1, .int v1), (0, .ref (q.2.2.1 0))]) d_BT_change_11 rfl (by decide) rfl ?_
  refine R_aload_n C 2 d_BT_change_12 rfl rfl ?_
  refine R_bind (fun μ3 h4 => ?_)
  refine R_callV C xm_0 (xc_0 q _ _) rfl cf_BT_plansFromNow rfl ml_BT_197 im_BT_plansFromNow sl_BT_BT_plansFromNow_BT_plansFromNow (c_BT_plansFromNow (gk C) h4) (by decide) (by decide) rfl rfl (Nat.le_of_ble_eq_true rfl) d_BT_change_13 ?_
  refine R_iconst C d_BT_change_16 (v := 0) (by decide +kernel) ?_
  refine R_istore_n C (lv' := [(3, .int 0), (2, .int (-5)), (1, .int v1), (0, .ref (q.2.2.1 0))]) d_BT_change_17 rfl (by decide) rfl ?_
  refine R_sub [2, 1, 0, 3] rfl ?_
  refine W_BT_change_18 C ?_ fu _ _ _ _
  intro x26 μ27
  refine R_iload_n C 0 d_BT_change_105 rfl rfl ?_
  exact R_iret C rfl d_BT_change_106
theorem c_BT_change {q : QT} (hg : GOk sdX q) {μ : Mm} {ν : Ml} {o : Int32 × Mm} (ho : F_BT_change μ = some o) : Ct sdX q y_BT_change prog_1_method_21_code 6 (some (FieldType.int)) 6 [.ref (q.2.2.1 0)] μ ν ((φIm ν) o).1 ((φIm ν) o).2.1 ((φIm ν) o).2.2 := Ct_of rfl hg (fun z C => w_BT_change C) (Nat.le_of_ble_eq_true rfl) ho
def L_Seat_isAsHeard_2 (f2 : Nat) (μ : Mm) (k : Unit → Option (Int32)) : Nat → Int32 → Option (Int32)
  | 0, _ => none
  | n + 1, s1 => (if (μ (f2 + 7) 2) ≤ s1 then k () else (rdI (μ ((f2 + 7) + 2)) (rlen (f2 + 7)) s1).bind fun v3 => (F_Seat_noise f2 v3 μ).bind fun v4 => (rdI (μ ((f2 + 7) + 1)) (rlen (f2 + 7)) s1).bind fun v6 => (if v4 = v6 then L_Seat_isAsHeard_2 f2 μ k n (s1 + 1) else some 0))
def F_Seat_isAsHeard (this : Nat) (μ : Mm) : Option (Int32) := L_Seat_isAsHeard_2 this μ (fun (_ : Unit) => some 1) fu 0
theorem d_Seat_isAsHeard_0 : decode prog_7_method_20_code 0 = .ok (.iconst 0, 1) := by decide +kernel
theorem d_Seat_isAsHeard_1 : decode prog_7_method_20_code 1 = .ok (.istore_n 1, 1) := by decide +kernel
theorem d_Seat_isAsHeard_2 : decode prog_7_method_20_code 2 = .ok (.iload_n 1, 1) := by decide +kernel
theorem d_Seat_isAsHeard_3 : decode prog_7_method_20_code 3 = .ok (.aload_n 0, 1) := by decide +kernel
theorem d_Seat_isAsHeard_13 : decode prog_7_method_20_code 13 = .ok (.aload_n 0, 1) := by decide +kernel
theorem d_Seat_isAsHeard_14 : decode prog_7_method_20_code 14 = .ok (.aload_n 0, 1) := by decide +kernel
theorem d_Seat_isAsHeard_21 : decode prog_7_method_20_code 21 = .ok (.iload_n 1, 1) := by decide +kernel
theorem d_Seat_isAsHeard_23 : decode prog_7_method_20_code 23 = .ok (.invokevirtual 148, 3) := by decide +kernel
theorem d_Seat_isAsHeard_26 : decode prog_7_method_20_code 26 = .ok (.aload_n 0, 1) := by decide +kernel
theorem d_Seat_isAsHeard_33 : decode prog_7_method_20_code 33 = .ok (.iload_n 1, 1) := by decide +kernel
theorem d_Seat_isAsHeard_40 : decode prog_7_method_20_code 40 = .ok (.iinc 1 1, 3) := by decide +kernel
theorem d_Seat_isAsHeard_43 : decode prog_7_method_20_code 43 = .ok (.goto (-41), 3) := by decide +kernel
theorem d_Seat_isAsHeard_38 : decode prog_7_method_20_code 38 = .ok (.iconst 0, 1) := by decide +kernel
theorem d_Seat_isAsHeard_39 : decode prog_7_method_20_code 39 = .ok (.ireturn, 1) := by decide +kernel
theorem d_Seat_isAsHeard_35 : decode prog_7_method_20_code 35 = .ok (.if_icmp .eq 5, 3) := by decide +kernel
theorem d_Seat_isAsHeard_30 : decode prog_7_method_20_code 30 = .ok (.getfield 155, 3) := by decide +kernel
theorem d_Seat_isAsHeard_27 : decode prog_7_method_20_code 27 = .ok (.getfield 45, 3) := by decide +kernel
theorem d_Seat_isAsHeard_18 : decode prog_7_method_20_code 18 = .ok (.getfield 152, 3) := by decide +kernel
theorem d_Seat_isAsHeard_15 : decode prog_7_method_20_code 15 = .ok (.getfield 45, 3) := by decide +kernel
theorem d_Seat_isAsHeard_10 : decode prog_7_method_20_code 10 = .ok (.if_icmp .ge 36, 3) := by decide +kernel
theorem d_Seat_isAsHeard_7 : decode prog_7_method_20_code 7 = .ok (.getfield 151, 3) := by decide +kernel
theorem d_Seat_isAsHeard_4 : decode prog_7_method_20_code 4 = .ok (.getfield 45, 3) := by decide +kernel
theorem d_Seat_isAsHeard_22 : decode prog_7_method_20_code 22 = .ok (.iaload, 1) := by decide +kernel
theorem d_Seat_isAsHeard_34 : decode prog_7_method_20_code 34 = .ok (.iaload, 1) := by decide +kernel
set_option maxRecDepth 10000 in
set_option maxHeartbeats 4000000 in
theorem W_Seat_isAsHeard_2 {q : QT} {z : ZT} {μ : Mm} {ν : Ml} {f2 : Nat} {k : Unit → Option (Int32)} (C : Ctx sdX q z prog_7_method_20_code "BesideTom$Seating" 2 6 (some (FieldType.boolean))) (h_f2 : f2 ∈ seats) (hk : R sdX q z 2 (φI μ ν) (k ()) μ ν 46 [] []) : ∀ (n : Nat) (s1 : Int32), R sdX q z 2 (φI μ ν) (L_Seat_isAsHeard_2 f2 μ k n s1) μ ν 2 [(1, .int s1), (0, .ref (q.2.2.1 f2))] [] := by
  intro n
  induction n with
  | zero =>
    intros
    exact R_none
  | succ n ih =>
    intro s1
    rw [L_Seat_isAsHeard_2]
    refine R_iload_n C 0 d_Seat_isAsHeard_2 rfl rfl ?_
    refine R_aload_n C 1 d_Seat_isAsHeard_3 rfl rfl ?_
    refine gf_Seat_heard C h_f2 fl_Seat_45 d_Seat_isAsHeard_4 ?_
    refine gf_Rows_many C (sr_7 h_f2) fl_Seat_151 d_Seat_isAsHeard_7 ?_
    refine R_icmp_ge C d_Seat_isAsHeard_10 (tgt := 46) (by decide) ?_ ?_
    · skip
      exact R_sub [] rfl hk
    · skip
      refine R_aload_n C 1 d_Seat_isAsHeard_13 rfl rfl ?_
      refine R_aload_n C 1 d_Seat_isAsHeard_14 rfl rfl ?_
      refine gf_Seat_heard C h_f2 fl_Seat_45 d_Seat_isAsHeard_15 ?_
      refine gf_Rows_second C (sr_7 h_f2) fl_Seat_152 d_Seat_isAsHeard_18 ?_
      refine R_iload_n C 0 d_Seat_isAsHeard_21 rfl rfl ?_
      refine R_iald C (re_2 (sr_7 h_f2)) (rc_2 (sr_7 h_f2) q _ _) d_Seat_isAsHeard_22 (fun v3 => ?_)
      refine R_bind (fun v4 h5 => ?_)
      refine R_callV C (se_0 h_f2) (sc_0 h_f2 q _ _) rfl cf_Seat_noise rfl ml_Seat_148 im_Seat_noise sl_Seat_Seat_noise_Seat_noise (c_Seat_noise (gk C) h_f2 h5) (by decide) (by decide) rfl rfl (Nat.le_of_ble_eq_true rfl) d_Seat_isAsHeard_23 ?_
      refine R_aload_n C 1 d_Seat_isAsHeard_26 rfl rfl ?_
      refine gf_Seat_heard C h_f2 fl_Seat_45 d_Seat_isAsHeard_27 ?_
      refine gf_Rows_first C (sr_7 h_f2) fl_Seat_155 d_Seat_isAsHeard_30 ?_
      refine R_iload_n C 0 d_Seat_isAsHeard_33 rfl rfl ?_
      refine R_iald C (re_1 (sr_7 h_f2)) (rc_1 (sr_7 h_f2) q _ _) d_Seat_isAsHeard_34 (fun v6 => ?_)
      refine R_icmp_eq C d_Seat_isAsHeard_35 (tgt := 40) (by decide) ?_ ?_
      · skip
        refine R_iinc C 0 d_Seat_isAsHeard_40 rfl (iinc_v _ (v := 1) (by decide +kernel)) (lv' := [(1, .int (s1 + 1)), (0, .ref (q.2.2.1 f2))]) (by decide) rfl ?_
        refine R_goto C d_Seat_isAsHeard_43 (tgt := 2) (by decide) ?_
        exact R_sub [0, 1] rfl (ih (s1 + 1))
      · skip
        refine R_iconst C d_Seat_isAsHeard_38 (v := 0) (by decide +kernel) ?_
        exact R_zret C (by decide) rfl d_Seat_isAsHeard_39
theorem d_Seat_isAsHeard_46 : decode prog_7_method_20_code 46 = .ok (.iconst 1, 1) := by decide +kernel
theorem d_Seat_isAsHeard_47 : decode prog_7_method_20_code 47 = .ok (.ireturn, 1) := by decide +kernel
set_option maxRecDepth 10000 in
set_option maxHeartbeats 4000000 in
theorem w_Seat_isAsHeard {q : QT} {z : ZT} {this : Nat} {μ : Mm} {ν : Ml} (C : Ctx sdX q z prog_7_method_20_code "BesideTom$Seating" 2 6 (some (FieldType.boolean))) (h_this : this ∈ seats) : R sdX q z 2 (φI μ ν) (F_Seat_isAsHeard this μ) μ ν 0 [(0, .ref (q.2.2.1 this))] [] := by
  unfold F_Seat_isAsHeard
  refine R_iconst C d_Seat_isAsHeard_0 (v := 0) (by decide +kernel) ?_
  refine R_istore_n C (lv' := [(1, .int 0), (0, .ref (q.2.2.1 this))]) d_Seat_isAsHeard_1 rfl (by decide) rfl ?_
  refine R_sub [0, 1] rfl ?_
  refine W_Seat_isAsHeard_2 C h_this ?_ fu _
  skip
  refine R_iconst C d_Seat_isAsHeard_46 (v := 1) (by decide +kernel) ?_
  exact R_zret C (by decide) rfl d_Seat_isAsHeard_47
theorem c_Seat_isAsHeard {q : QT} (hg : GOk sdX q) {this : Nat} {μ : Mm} {ν : Ml} (h_this : this ∈ seats) {o : Int32} (ho : F_Seat_isAsHeard this μ = some o) : Ct sdX q y_Seat_isAsHeard prog_7_method_20_code 2 (some (FieldType.boolean)) 6 [.ref (q.2.2.1 this)] μ ν ((φI μ ν) o).1 ((φI μ ν) o).2.1 ((φI μ ν) o).2.2 := Ct_of rfl hg (fun z C => w_Seat_isAsHeard C h_this) (Nat.le_of_ble_eq_true rfl) ho
def L_BT_loud_16 (f4 : Int32) (μ : Mm) (k : Unit → Option (Int32)) : Nat → Int32 → Option (Int32)
  | 0, _ => none
  | n + 1, s3 => (if 60 < s3 then k () else (F_Seat_noise 40 s3 μ).bind fun v5 => (if v5 < f4 then L_BT_loud_16 f4 μ k n (s3 + 1) else some s3))
def F_BT_loud (a1 : Int32) (μ : Mm) : Option (Int32) := (F_BT_within a1 0 999).bind fun v1 => (if v1 = 0 then some (-2) else L_BT_loud_16 a1 μ (fun (_ : Unit) => some (-5)) fu 0)
theorem d_BT_loud_0 : decode prog_1_method_13_code 0 = .ok (.iload_n 1, 1) := by decide +kernel
theorem d_BT_loud_1 : decode prog_1_method_13_code 1 = .ok (.iconst 0, 1) := by decide +kernel
theorem d_BT_loud_2 : decode prog_1_method_13_code 2 = .ok (.sipush 999, 3) := by decide +kernel
theorem d_BT_loud_5 : decode prog_1_method_13_code 5 = .ok (.invokestatic 76, 3) := by decide +kernel
theorem d_BT_loud_14 : decode prog_1_method_13_code 14 = .ok (.iconst 0, 1) := by decide +kernel
theorem d_BT_loud_15 : decode prog_1_method_13_code 15 = .ok (.istore_n 2, 1) := by decide +kernel
theorem d_BT_loud_16 : decode prog_1_method_13_code 16 = .ok (.iload_n 2, 1) := by decide +kernel
theorem d_BT_loud_17 : decode prog_1_method_13_code 17 = .ok (.bipush 60, 2) := by decide +kernel
theorem d_BT_loud_22 : decode prog_1_method_13_code 22 = .ok (.aload_n 0, 1) := by decide +kernel
theorem d_BT_loud_26 : decode prog_1_method_13_code 26 = .ok (.iload_n 2, 1) := by decide +kernel
theorem d_BT_loud_27 : decode prog_1_method_13_code 27 = .ok (.invokevirtual 124, 3) := by decide +kernel
theorem d_BT_loud_30 : decode prog_1_method_13_code 30 = .ok (.iload_n 1, 1) := by decide +kernel
theorem d_BT_loud_36 : decode prog_1_method_13_code 36 = .ok (.iinc 2 1, 3) := by decide +kernel
theorem d_BT_loud_39 : decode prog_1_method_13_code 39 = .ok (.goto (-23), 3) := by decide +kernel
theorem d_BT_loud_34 : decode prog_1_method_13_code 34 = .ok (.iload_n 2, 1) := by decide +kernel
theorem d_BT_loud_35 : decode prog_1_method_13_code 35 = .ok (.ireturn, 1) := by decide +kernel
theorem d_BT_loud_31 : decode prog_1_method_13_code 31 = .ok (.if_icmp .lt 5, 3) := by decide +kernel
theorem d_BT_loud_23 : decode prog_1_method_13_code 23 = .ok (.getfield 52, 3) := by decide +kernel
theorem d_BT_loud_19 : decode prog_1_method_13_code 19 = .ok (.if_icmp .gt 23, 3) := by decide +kernel
set_option maxRecDepth 10000 in
set_option maxHeartbeats 4000000 in
theorem W_BT_loud_16 {q : QT} {z : ZT} {μ : Mm} {ν : Ml} {f4 : Int32} {k : Unit → Option (Int32)} (C : Ctx sdX q z prog_1_method_13_code "BesideTom" 3 6 (some (FieldType.int))) (hk : R sdX q z 3 (φI μ ν) (k ()) μ ν 42 [] []) : ∀ (n : Nat) (s3 : Int32), R sdX q z 3 (φI μ ν) (L_BT_loud_16 f4 μ k n s3) μ ν 16 [(2, .int s3), (0, .ref (q.2.2.1 0)), (1, .int f4)] [] := by
  intro n
  induction n with
  | zero =>
    intros
    exact R_none
  | succ n ih =>
    intro s3
    rw [L_BT_loud_16]
    refine R_iload_n C 0 d_BT_loud_16 rfl rfl ?_
    refine R_bipush C d_BT_loud_17 (v := 60) (by decide +kernel) ?_
    refine R_icmp_gt C d_BT_loud_19 (tgt := 42) (by decide) ?_ ?_
    · skip
      exact R_sub [] rfl hk
    · skip
      refine R_aload_n C 1 d_BT_loud_22 rfl rfl ?_
      refine gf_BT_now C fl_BT_52 d_BT_loud_23 ?_
      refine R_iload_n C 0 d_BT_loud_26 rfl rfl ?_
      refine R_bind (fun v5 h6 => ?_)
      refine R_callV C (se_0 s40) (sc_0 s40 q _ _) rfl cf_Seat_noise rfl ml_BT_124 im_Seat_noise sl_Seat_Seat_noise_Seat_noise (c_Seat_noise (gk C) s40 h6) (by decide) (by decide) rfl rfl (Nat.le_of_ble_eq_true rfl) d_BT_loud_27 ?_
      refine R_iload_n C 2 d_BT_loud_30 rfl rfl ?_
      refine R_icmp_lt C d_BT_loud_31 (tgt := 36) (by decide) ?_ ?_
      · skip
        refine R_iinc C 0 d_BT_loud_36 rfl (iinc_v _ (v := 1) (by decide +kernel)) (lv' := [(2, .int (s3 + 1)), (0, .ref (q.2.2.1 0)), (1, .int f4)]) (by decide) rfl ?_
        refine R_goto C d_BT_loud_39 (tgt := 16) (by decide) ?_
        exact R_sub [0, 1, 2] rfl (ih (s3 + 1))
      · skip
        refine R_iload_n C 0 d_BT_loud_34 rfl rfl ?_
        exact R_iret C rfl d_BT_loud_35
theorem d_BT_loud_42 : decode prog_1_method_13_code 42 = .ok (.bipush (-5), 2) := by decide +kernel
theorem d_BT_loud_44 : decode prog_1_method_13_code 44 = .ok (.ireturn, 1) := by decide +kernel
theorem d_BT_loud_11 : decode prog_1_method_13_code 11 = .ok (.bipush (-2), 2) := by decide +kernel
theorem d_BT_loud_13 : decode prog_1_method_13_code 13 = .ok (.ireturn, 1) := by decide +kernel
theorem d_BT_loud_8 : decode prog_1_method_13_code 8 = .ok (.ifCond .ne 6, 3) := by decide +kernel
set_option maxRecDepth 10000 in
set_option maxHeartbeats 4000000 in
theorem w_BT_loud {q : QT} {z : ZT} {a1 : Int32} {μ : Mm} {ν : Ml} (C : Ctx sdX q z prog_1_method_13_code "BesideTom" 3 6 (some (FieldType.int))) : R sdX q z 3 (φI μ ν) (F_BT_loud a1 μ) μ ν 0 [(0, .ref (q.2.2.1 0)), (1, .int a1)] [] := by
  unfold F_BT_loud
  refine R_iload_n C 1 d_BT_loud_0 rfl rfl ?_
  refine R_iconst C d_BT_loud_1 (v := 0) (by decide +kernel) ?_
  refine R_sipush C d_BT_loud_2 (v := 999) (by decide +kernel) ?_
  refine R_bind (fun v1 h2 => ?_)
  refine R_callS C cf_BT_within ml_BT_76 sm_BT_within (c_BT_within (gk C) h2) (by decide) (by decide) rfl rfl (Nat.le_of_ble_eq_true rfl) d_BT_loud_5 ?_
  refine R_if_ne C d_BT_loud_8 (tgt := 14) (by decide) ?_ ?_
  · skip
    refine R_iconst C d_BT_loud_14 (v := 0) (by decide +kernel) ?_
    refine R_istore_n C (lv' := [(2, .int 0), (0, .ref (q.2.2.1 0)), (1, .int a1)]) d_BT_loud_15 rfl (by decide) rfl ?_
    refine R_sub [0, 1, 2] rfl ?_
    refine W_BT_loud_16 C ?_ fu _
    skip
    refine R_bipush C d_BT_loud_42 (v := (-5)) (by decide +kernel) ?_
    exact R_iret C rfl d_BT_loud_44
  · skip
    refine R_bipush C d_BT_loud_11 (v := (-2)) (by decide +kernel) ?_
    exact R_iret C rfl d_BT_loud_13
theorem c_BT_loud {q : QT} (hg : GOk sdX q) {a1 : Int32} {μ : Mm} {ν : Ml} {o : Int32} (ho : F_BT_loud a1 μ = some o) : Ct sdX q y_BT_loud prog_1_method_13_code 3 (some (FieldType.int)) 6 [.ref (q.2.2.1 0), .int a1] μ ν ((φI μ ν) o).1 ((φI μ ν) o).2.1 ((φI μ ν) o).2.2 := Ct_of rfl hg (fun z C => w_BT_loud C) (Nat.le_of_ble_eq_true rfl) ho
def F_BT_mean (a1 : Int32) (μ : Mm) : Option (Int64) := (F_Seat_noise 40 0 μ).bind fun v1 => (F_Seat_learnsOfAll 40 v1 μ).bind fun v3 => (F_BT_partOf v3 (μ 40 1) a1).bind fun v5 => some v5
theorem d_BT_mean_0 : decode prog_1_method_29_code 0 = .ok (.aload_n 0, 1) := by decide +kernel
theorem d_BT_mean_4 : decode prog_1_method_29_code 4 = .ok (.aload_n 0, 1) := by decide +kernel
theorem d_BT_mean_8 : decode prog_1_method_29_code 8 = .ok (.iconst 0, 1) := by decide +kernel
theorem d_BT_mean_9 : decode prog_1_method_29_code 9 = .ok (.invokevirtual 124, 3) := by decide +kernel
theorem d_BT_mean_12 : decode prog_1_method_29_code 12 = .ok (.invokevirtual 182, 3) := by decide +kernel
theorem d_BT_mean_15 : decode prog_1_method_29_code 15 = .ok (.aload_n 0, 1) := by decide +kernel
theorem d_BT_mean_22 : decode prog_1_method_29_code 22 = .ok (.iload_n 1, 1) := by decide +kernel
theorem d_BT_mean_23 : decode prog_1_method_29_code 23 = .ok (.invokestatic 256, 3) := by decide +kernel
theorem d_BT_mean_26 : decode prog_1_method_29_code 26 = .ok (.lreturn, 1) := by decide +kernel
theorem d_BT_mean_19 : decode prog_1_method_29_code 19 = .ok (.getfield 80, 3) := by decide +kernel
theorem d_BT_mean_16 : decode prog_1_method_29_code 16 = .ok (.getfield 52, 3) := by decide +kernel
theorem d_BT_mean_5 : decode prog_1_method_29_code 5 = .ok (.getfield 52, 3) := by decide +kernel
theorem d_BT_mean_1 : decode prog_1_method_29_code 1 = .ok (.getfield 52, 3) := by decide +kernel
set_option maxRecDepth 10000 in
set_option maxHeartbeats 4000000 in
theorem w_BT_mean {q : QT} {z : ZT} {a1 : Int32} {μ : Mm} {ν : Ml} (C : Ctx sdX q z prog_1_method_29_code "BesideTom" 2 6 (some (FieldType.long))) : R sdX q z 2 (φL μ ν) (F_BT_mean a1 μ) μ ν 0 [(0, .ref (q.2.2.1 0)), (1, .int a1)] [] := by
  unfold F_BT_mean
  refine R_aload_n C 0 d_BT_mean_0 rfl rfl ?_
  refine gf_BT_now C fl_BT_52 d_BT_mean_1 ?_
  refine R_aload_n C 0 d_BT_mean_4 rfl rfl ?_
  refine gf_BT_now C fl_BT_52 d_BT_mean_5 ?_
  refine R_iconst C d_BT_mean_8 (v := 0) (by decide +kernel) ?_
  refine R_bind (fun v1 h2 => ?_)
  refine R_callV C (se_0 s40) (sc_0 s40 q _ _) rfl cf_Seat_noise rfl ml_BT_124 im_Seat_noise sl_Seat_Seat_noise_Seat_noise (c_Seat_noise (gk C) s40 h2) (by decide) (by decide) rfl rfl (Nat.le_of_ble_eq_true rfl) d_BT_mean_9 ?_
  refine R_bind (fun v3 h4 => ?_)
  refine R_callV C (se_0 s40) (sc_0 s40 q _ _) rfl cf_Seat_learnsOfAll rfl ml_BT_182 im_Seat_learnsOfAll sl_Seat_Seat_learnsOfAll_Seat_learnsOfAll (c_Seat_learnsOfAll (gk C) s40 h4) (by decide) (by decide) rfl rfl (Nat.le_of_ble_eq_true rfl) d_BT_mean_12 ?_
  refine R_aload_n C 0 d_BT_mean_15 rfl rfl ?_
  refine gf_BT_now C fl_BT_52 d_BT_mean_16 ?_
  refine gf_Seat_many C s40 fl_BT_80 d_BT_mean_19 ?_
  refine R_iload_n C 1 d_BT_mean_22 rfl rfl ?_
  refine R_bind (fun v5 h6 => ?_)
  refine R_callS C cf_BT_partOf ml_BT_256 sm_BT_partOf (c_BT_partOf (gk C) h6) (by decide) (by decide) rfl rfl (Nat.le_of_ble_eq_true rfl) d_BT_mean_23 ?_
  exact R_lret C rfl d_BT_mean_26
theorem c_BT_mean {q : QT} (hg : GOk sdX q) {a1 : Int32} {μ : Mm} {ν : Ml} {o : Int64} (ho : F_BT_mean a1 μ = some o) : Ct sdX q y_BT_mean prog_1_method_29_code 2 (some (FieldType.long)) 6 [.ref (q.2.2.1 0), .int a1] μ ν ((φL μ ν) o).1 ((φL μ ν) o).2.1 ((φL μ ν) o).2.2 := Ct_of rfl hg (fun z C => w_BT_mean C) (Nat.le_of_ble_eq_true rfl) ho
def F_BT_move (a1 : Int32) (a2 : Int32) (μ : Mm) : Option (Int32 × Mm) := (F_Seat_has 40 a1 μ).bind fun v1 => (if v1 = 0 then some ((-1), μ) else (F_BT_isDesk a2).bind fun v3 => (if v3 = 0 then some ((-1), μ) else (F_Seat_moves 40 a1 a2 μ).bind fun μ5 => (F_Seat_noise 40 0 μ5).bind fun v7 => some (v7, μ5)))
theorem d_BT_move_0 : decode prog_1_method_4_code 0 = .ok (.aload_n 0, 1) := by decide +kernel
theorem d_BT_move_4 : decode prog_1_method_4_code 4 = .ok (.iload_n 1, 1) := by decide +kernel
theorem d_BT_move_5 : decode prog_1_method_4_code 5 = .ok (.invokevirtual 92, 3) := by decide +kernel
theorem d_BT_move_18 : decode prog_1_method_4_code 18 = .ok (.iconst (-1), 1) := by decide +kernel
theorem d_BT_move_19 : decode prog_1_method_4_code 19 = .ok (.ireturn, 1) := by decide +kernel
theorem d_BT_move_11 : decode prog_1_method_4_code 11 = .ok (.iload_n 2, 1) := by decide +kernel
theorem d_BT_move_12 : decode prog_1_method_4_code 12 = .ok (.invokestatic 130, 3) := by decide +kernel
theorem d_BT_move_20 : decode prog_1_method_4_code 20 = .ok (.aload_n 0, 1) := by decide +kernel
theorem d_BT_move_24 : decode prog_1_method_4_code 24 = .ok (.iload_n 1, 1) := by decide +kernel
theorem d_BT_move_25 : decode prog_1_method_4_code 25 = .ok (.iload_n 2, 1) := by decide +kernel
theorem d_BT_move_26 : decode prog_1_method_4_code 26 = .ok (.invokevirtual 133, 3) := by decide +kernel
theorem d_BT_move_29 : decode prog_1_method_4_code 29 = .ok (.aload_n 0, 1) := by decide +kernel
theorem d_BT_move_33 : decode prog_1_method_4_code 33 = .ok (.iconst 0, 1) := by decide +kernel
theorem d_BT_move_34 : decode prog_1_method_4_code 34 = .ok (.invokevirtual 124, 3) := by decide +kernel
theorem d_BT_move_37 : decode prog_1_method_4_code 37 = .ok (.ireturn, 1) := by decide +kernel
theorem d_BT_move_30 : decode prog_1_method_4_code 30 = .ok (.getfield 52, 3) := by decide +kernel
theorem d_BT_move_21 : decode prog_1_method_4_code 21 = .ok (.getfield 52, 3) := by decide +kernel
theorem d_BT_move_15 : decode prog_1_method_4_code 15 = .ok (.ifCond .ne 5, 3) := by decide +kernel
theorem d_BT_move_8 : decode prog_1_method_4_code 8 = .ok (.ifCond .eq 10, 3) := by decide +kernel
theorem d_BT_move_1 : decode prog_1_method_4_code 1 = .ok (.getfield 52, 3) := by decide +kernel
set_option maxRecDepth 10000 in
set_option maxHeartbeats 4000000 in
theorem w_BT_move {q : QT} {z : ZT} {a1 : Int32} {a2 : Int32} {μ : Mm} {ν : Ml} (C : Ctx sdX q z prog_1_method_4_code "BesideTom" 3 6 (some (FieldType.int))) : R sdX q z 3 (φIm ν) (F_BT_move a1 a2 μ) μ ν 0 [(0, .ref (q.2.2.1 0)), (1, .int a1), (2, .int a2)] [] := by
  unfold F_BT_move
  refine R_aload_n C 0 d_BT_move_0 rfl rfl ?_
  refine gf_BT_now C fl_BT_52 d_BT_move_1 ?_
  refine R_iload_n C 1 d_BT_move_4 rfl rfl ?_
  refine R_bind (fun v1 h2 => ?_)
  refine R_callV C (se_0 s40) (sc_0 s40 q _ _) rfl cf_Seat_has rfl ml_BT_92 im_Seat_has sl_Seat_Seat_has_Seat_has (c_Seat_has (gk C) s40 h2) (by decide) (by decide) rfl rfl (Nat.le_of_ble_eq_true rfl) d_BT_move_5 ?_
  refine R_if_eq C d_BT_move_8 (tgt := 18) (by decide) ?_ ?_
  · skip
    refine R_iconst C d_BT_move_18 (v := (-1)) (by decide +kernel) ?_
    exact R_iret C rfl d_BT_move_19
  · skip
    refine R_iload_n C 2 d_BT_move_11 rfl rfl ?_
    refine R_bind (fun v3 h4 => ?_)
    refine R_callS C cf_BT_isDesk ml_BT_130 sm_BT_isDesk (c_BT_isDesk (gk C) h4) (by decide) (by decide) rfl rfl (Nat.le_of_ble_eq_true rfl) d_BT_move_12 ?_
    refine R_if_ne C d_BT_move_15 (tgt := 20) (by decide) ?_ ?_
    · skip
      refine R_aload_n C 0 d_BT_move_20 rfl rfl ?_
      refine gf_BT_now C fl_BT_52 d_BT_move_21 ?_
      refine R_iload_n C 1 d_BT_move_24 rfl rfl ?_
      refine R_iload_n C 2 d_BT_move_25 rfl rfl ?_
      refine R_bind (fun μ5 h6 => ?_)
      refine R_callV C (se_0 s40) (sc_0 s40 q _ _) rfl cf_Seat_moves rfl ml_BT_133 im_Seat_moves sl_Seat_Seat_moves_Seat_moves (c_Seat_moves (gk C) s40 h6) (by decide) (by decide) rfl rfl (Nat.le_of_ble_eq_true rfl) d_BT_move_26 ?_
      refine R_aload_n C 0 d_BT_move_29 rfl rfl ?_
      refine gf_BT_now C fl_BT_52 d_BT_move_30 ?_
      refine R_iconst C d_BT_move_33 (v := 0) (by decide +kernel) ?_
      refine R_bind (fun v7 h8 => ?_)
      refine R_callV C (se_0 s40) (sc_0 s40 q _ _) rfl cf_Seat_noise rfl ml_BT_124 im_Seat_noise sl_Seat_Seat_noise_Seat_noise (c_Seat_noise (gk C) s40 h8) (by decide) (by decide) rfl rfl (Nat.le_of_ble_eq_true rfl) d_BT_move_34 ?_
      exact R_iret C rfl d_BT_move_37
    · skip
      refine R_iconst C d_BT_move_18 (v := (-1)) (by decide +kernel) ?_
      exact R_iret C rfl d_BT_move_19
theorem c_BT_move {q : QT} (hg : GOk sdX q) {a1 : Int32} {a2 : Int32} {μ : Mm} {ν : Ml} {o : Int32 × Mm} (ho : F_BT_move a1 a2 μ = some o) : Ct sdX q y_BT_move prog_1_method_4_code 3 (some (FieldType.int)) 6 [.ref (q.2.2.1 0), .int a1, .int a2] μ ν ((φIm ν) o).1 ((φIm ν) o).2.1 ((φIm ν) o).2.2 := Ct_of rfl hg (fun z C => w_BT_move C) (Nat.le_of_ble_eq_true rfl) ho
def L_BT_odds_20 (f5 : Int32) (f6 : Int32) (k : Int32 → Mm → Option (Int64 × Mm)) : Nat → Int32 → Int32 → Mm → Option (Int64 × Mm)
  | 0, _, _, _ => none
  | n + 1, s3, s4, μ7 => (if (μ7 40 1) ≤ s4 then k s3 μ7 else (F_BT_without s4 μ7).bind fun μ8 => (F_Seat_noise 60 0 μ8).bind fun v10 => jn (α := Int32) (fun K13 => (if f5 < v10 then K13 s3 else K13 (s3 + 1))) (fun (j12 : Int32) => L_BT_odds_20 f5 f6 k n j12 (s4 + 1) μ8))
def F_BT_odds (a1 : Int32) (a2 : Int32) (μ : Mm) : Option (Int64 × Mm) := (F_BT_within a1 0 999).bind fun v1 => (if v1 = 0 then some ((-9223372036854775808), μ) else L_BT_odds_20 a1 a2 (fun (x14 : Int32) (μ15 : Mm) => (F_BT_partOf x14 (μ15 40 1) a2).bind fun v16 => some (v16, μ15)) fu 0 0 μ)
theorem d_BT_odds_0 : decode prog_1_method_28_code 0 = .ok (.iload_n 1, 1) := by decide +kernel
theorem d_BT_odds_1 : decode prog_1_method_28_code 1 = .ok (.iconst 0, 1) := by decide +kernel
theorem d_BT_odds_2 : decode prog_1_method_28_code 2 = .ok (.sipush 999, 3) := by decide +kernel
theorem d_BT_odds_5 : decode prog_1_method_28_code 5 = .ok (.invokestatic 76, 3) := by decide +kernel
theorem d_BT_odds_15 : decode prog_1_method_28_code 15 = .ok (.iconst 0, 1) := by decide +kernel
theorem d_BT_odds_16 : decode prog_1_method_28_code 16 = .ok (.istore_n 3, 1) := by decide +kernel
theorem d_BT_odds_17 : decode prog_1_method_28_code 17 = .ok (.iconst 0, 1) := by decide +kernel
theorem d_BT_odds_18 : decode prog_1_method_28_code 18 = .ok (.istore 4, 2) := by decide +kernel
theorem d_BT_odds_20 : decode prog_1_method_28_code 20 = .ok (.iload 4, 2) := by decide +kernel
theorem d_BT_odds_22 : decode prog_1_method_28_code 22 = .ok (.aload_n 0, 1) := by decide +kernel
theorem d_BT_odds_32 : decode prog_1_method_28_code 32 = .ok (.aload_n 0, 1) := by decide +kernel
theorem d_BT_odds_33 : decode prog_1_method_28_code 33 = .ok (.iload 4, 2) := by decide +kernel
theorem d_BT_odds_35 : decode prog_1_method_28_code 35 = .ok (.invokevirtual 233, 3) := by decide +kernel
theorem d_BT_odds_38 : decode prog_1_method_28_code 38 = .ok (.aload_n 0, 1) := by decide +kernel
theorem d_BT_odds_42 : decode prog_1_method_28_code 42 = .ok (.iconst 0, 1) := by decide +kernel
theorem d_BT_odds_43 : decode prog_1_method_28_code 43 = .ok (.invokevirtual 124, 3) := by decide +kernel
theorem d_BT_odds_46 : decode prog_1_method_28_code 46 = .ok (.iload_n 1, 1) := by decide +kernel
theorem d_BT_odds_50 : decode prog_1_method_28_code 50 = .ok (.iinc 3 1, 3) := by decide +kernel
theorem d_BT_odds_47 : decode prog_1_method_28_code 47 = .ok (.if_icmp .gt 6, 3) := by decide +kernel
theorem d_BT_odds_53 : decode prog_1_method_28_code 53 = .ok (.iinc 4 1, 3) := by decide +kernel
theorem d_BT_odds_56 : decode prog_1_method_28_code 56 = .ok (.goto (-36), 3) := by decide +kernel
theorem d_BT_odds_39 : decode prog_1_method_28_code 39 = .ok (.getfield 56, 3) := by decide +kernel
theorem d_BT_odds_29 : decode prog_1_method_28_code 29 = .ok (.if_icmp .ge 30, 3) := by decide +kernel
theorem d_BT_odds_26 : decode prog_1_method_28_code 26 = .ok (.getfield 80, 3) := by decide +kernel
theorem d_BT_odds_23 : decode prog_1_method_28_code 23 = .ok (.getfield 52, 3) := by decide +kernel
set_option maxRecDepth 10000 in
set_option maxHeartbeats 4000000 in
theorem W_BT_odds_20 {q : QT} {z : ZT} {ν : Ml} {f5 : Int32} {f6 : Int32} {k : Int32 → Mm → Option (Int64 × Mm)} (C : Ctx sdX q z prog_1_method_28_code "BesideTom" 5 6 (some (FieldType.long))) (hk : ∀ (e0_ : Int32) (me_ : Mm), R sdX q z 5 (φLm ν) (k e0_ me_) me_ ν 59 [(0, .ref (q.2.2.1 0)), (2, .int f6), (3, .int e0_)] []) : ∀ (n : Nat) (s3 : Int32) (s4 : Int32) (μ7 : Mm), R sdX q z 5 (φLm ν) (L_BT_odds_20 f5 f6 k n s3 s4 μ7) μ7 ν 20 [(3, .int s3), (4, .int s4), (0, .ref (q.2.2.1 0)), (1, .int f5), (2, .int f6)] [] := by
  intro n
  induction n with
  | zero =>
    intros
    exact R_none
  | succ n ih =>
    intro s3 s4 μ7
    rw [L_BT_odds_20]
    refine R_iload C 1 d_BT_odds_20 rfl ?_
    refine R_aload_n C 2 d_BT_odds_22 rfl rfl ?_
    refine gf_BT_now C fl_BT_52 d_BT_odds_23 ?_
    refine gf_Seat_many C s40 fl_BT_80 d_BT_odds_26 ?_
    refine R_icmp_ge C d_BT_odds_29 (tgt := 59) (by decide) ?_ ?_
    · skip
      exact R_sub [2, 4, 0] rfl (hk s3 μ7)
    · skip
      refine R_aload_n C 2 d_BT_odds_32 rfl rfl ?_
      refine R_iload C 1 d_BT_odds_33 rfl ?_
      refine R_bind (fun μ8 h9 => ?_)
      refine R_callV C xm_0 (xc_0 q _ _) rfl cf_BT_without rfl ml_BT_233 im_BT_without sl_BT_BT_without_BT_without (c_BT_without (gk C) h9) (by decide) (by decide) rfl rfl (Nat.le_of_ble_eq_true rfl) d_BT_odds_35 ?_
      refine R_aload_n C 2 d_BT_odds_38 rfl rfl ?_
      refine gf_BT_asked C fl_BT_56 d_BT_odds_39 ?_
      refine R_iconst C d_BT_odds_42 (v := 0) (by decide +kernel) ?_
      refine R_bind (fun v10 h11 => ?_)
      refine R_callV C (se_0 s60) (sc_0 s60 q _ _) rfl cf_Seat_noise rfl ml_BT_124 im_Seat_noise sl_Seat_Seat_noise_Seat_noise (c_Seat_noise (gk C) s60 h11) (by decide) (by decide) rfl rfl (Nat.le_of_ble_eq_true rfl) d_BT_odds_43 ?_
      refine R_iload_n C 3 d_BT_odds_46 rfl rfl ?_
      refine R_jn (fun K13 => ∀ (j12 : Int32), R sdX q z 5 (φLm ν) (K13 j12) μ8 ν 53 [(0, .ref (q.2.2.1 0)), (1, .int f5), (2, .int f6), (3, .int j12), (4, .int s4)] []) ?_ (fun K13 hK13 => ?_)
      · intro j12
        refine R_iinc C 4 d_BT_odds_53 rfl (iinc_v _ (v := 1) (by decide +kernel)) (lv' := [(4, .int (s4 + 1)), (0, .ref (q.2.2.1 0)), (1, .int f5), (2, .int f6), (3, .int j12)]) (by decide) rfl ?_
        refine R_goto C d_BT_odds_56 (tgt := 20) (by decide) ?_
        exact R_sub [4, 0, 1, 2, 3] rfl (ih j12 (s4 + 1) μ8)
      · skip
        refine R_icmp_gt C d_BT_odds_47 (tgt := 53) (by decide) ?_ ?_
        · skip
          exact R_sub [2, 3, 4, 0, 1] rfl (hK13 s3)
        · skip
          refine R_iinc C 0 d_BT_odds_50 rfl (iinc_v _ (v := 1) (by decide +kernel)) (lv' := [(3, .int (s3 + 1)), (4, .int s4), (0, .ref (q.2.2.1 0)), (1, .int f5), (2, .int f6)]) (by decide) rfl ?_
          exact R_sub [2, 3, 4, 0, 1] rfl (hK13 (s3 + 1))
theorem d_BT_odds_59 : decode prog_1_method_28_code 59 = .ok (.iload_n 3, 1) := by decide +kernel
theorem d_BT_odds_60 : decode prog_1_method_28_code 60 = .ok (.aload_n 0, 1) := by decide +kernel
theorem d_BT_odds_67 : decode prog_1_method_28_code 67 = .ok (.iload_n 2, 1) := by decide +kernel
theorem d_BT_odds_68 : decode prog_1_method_28_code 68 = .ok (.invokestatic 256, 3) := by decide +kernel
theorem d_BT_odds_71 : decode prog_1_method_28_code 71 = .ok (.lreturn, 1) := by decide +kernel
theorem d_BT_odds_64 : decode prog_1_method_28_code 64 = .ok (.getfield 80, 3) := by decide +kernel
theorem d_BT_odds_61 : decode prog_1_method_28_code 61 = .ok (.getfield 52, 3) := by decide +kernel
theorem d_BT_odds_11 : decode prog_1_method_28_code 11 = .ok (.ldc2_w 254, 3) := by decide +kernel
theorem d_BT_odds_14 : decode prog_1_method_28_code 14 = .ok (.lreturn, 1) := by decide +kernel
theorem d_BT_odds_8 : decode prog_1_method_28_code 8 = .ok (.ifCond .ne 7, 3) := by decide +kernel
set_option maxRecDepth 10000 in
set_option maxHeartbeats 4000000 in
theorem w_BT_odds {q : QT} {z : ZT} {a1 : Int32} {a2 : Int32} {μ : Mm} {ν : Ml} (C : Ctx sdX q z prog_1_method_28_code "BesideTom" 5 6 (some (FieldType.long))) : R sdX q z 5 (φLm ν) (F_BT_odds a1 a2 μ) μ ν 0 [(0, .ref (q.2.2.1 0)), (1, .int a1), (2, .int a2)] [] := by
  unfold F_BT_odds
  refine R_iload_n C 1 d_BT_odds_0 rfl rfl ?_
  refine R_iconst C d_BT_odds_1 (v := 0) (by decide +kernel) ?_
  refine R_sipush C d_BT_odds_2 (v := 999) (by decide +kernel) ?_
  refine R_bind (fun v1 h2 => ?_)
  refine R_callS C cf_BT_within ml_BT_76 sm_BT_within (c_BT_within (gk C) h2) (by decide) (by decide) rfl rfl (Nat.le_of_ble_eq_true rfl) d_BT_odds_5 ?_
  refine R_if_ne C d_BT_odds_8 (tgt := 15) (by decide) ?_ ?_
  · skip
    refine R_iconst C d_BT_odds_15 (v := 0) (by decide +kernel) ?_
    refine R_istore_n C (lv' := [(3, .int 0), (0, .ref (q.2.2.1 0)), (1, .int a1), (2, .int a2)]) d_BT_odds_16 rfl (by decide) rfl ?_
    refine R_iconst C d_BT_odds_17 (v := 0) (by decide +kernel) ?_
    refine R_istore C (lv' := [(4, .int 0), (3, .int 0), (0, .ref (q.2.2.1 0)), (1, .int a1), (2, .int a2)]) d_BT_odds_18 (by decide) rfl ?_
    refine R_sub [1, 0, 2, 3, 4] rfl ?_
    refine W_BT_odds_20 C ?_ fu _ _ _
    intro x14 μ15
    refine R_iload_n C 2 d_BT_odds_59 rfl rfl ?_
    refine R_aload_n C 0 d_BT_odds_60 rfl rfl ?_
    refine gf_BT_now C fl_BT_52 d_BT_odds_61 ?_
    refine gf_Seat_many C s40 fl_BT_80 d_BT_odds_64 ?_
    refine R_iload_n C 1 d_BT_odds_67 rfl rfl ?_
    refine R_bind (fun v16 h17 => ?_)
    refine R_callS C cf_BT_partOf ml_BT_256 sm_BT_partOf (c_BT_partOf (gk C) h17) (by decide) (by decide) rfl rfl (Nat.le_of_ble_eq_true rfl) d_BT_odds_68 ?_
    exact R_lret C rfl d_BT_odds_71
  · skip
    refine R_ldc2 C k_BT_254 d_BT_odds_11 ?_
    exact R_lret C rfl d_BT_odds_14
theorem c_BT_odds {q : QT} (hg : GOk sdX q) {a1 : Int32} {a2 : Int32} {μ : Mm} {ν : Ml} {o : Int64 × Mm} (ho : F_BT_odds a1 a2 μ = some o) : Ct sdX q y_BT_odds prog_1_method_28_code 5 (some (FieldType.long)) 6 [.ref (q.2.2.1 0), .int a1, .int a2] μ ν ((φLm ν) o).1 ((φLm ν) o).2.1 ((φLm ν) o).2.2 := Ct_of rfl hg (fun z C => w_BT_odds C) (Nat.le_of_ble_eq_true rfl) ho
