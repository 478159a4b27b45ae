def F_BT_of (a1 : Int32) (a2 : Int32) (μ : Mm) : Option (Int32) := (F_Seat_has 40 a1 μ).bind fun v1 => (if v1 = 0 then some (-1) else (F_BT_within a2 10 15).bind fun v3 => (if v3 = 0 then (if a2 = 0 then (rdI (μ 41) 6 a1).bind fun v5 => some v5 else if a2 = 1 then (rdI (μ 42) 6 a1).bind fun v6 => some v6 else if a2 = 2 then (rdI (μ 43) 6 a1).bind fun v7 => some v7 else if a2 = 3 then (rdI (μ 44) 6 a1).bind fun v8 => some v8 else if a2 = 4 then (F_Seat_isAway 40 a1 μ).bind fun v9 => (if v9 = 0 then some 0 else some 1) else if a2 = 5 then (F_Seat_neighbours 40 a1 μ).bind fun v11 => some v11 else if a2 = 6 then (F_Seat_voice 40 a1 0 μ).bind fun v13 => some v13 else if a2 = 7 then (F_Seat_talk 40 a1 0 μ).bind fun v15 => some v15 else if a2 = 8 then (F_Seat_noise 40 0 μ).bind fun v17 => (F_Seat_learns 40 a1 v17 μ).bind fun v19 => some v19 else some (-1)) else (rdI (μ 46) 36 (((a1 * 6) + a2) - 10)).bind fun v21 => some v21))
theorem d_BT_of_0 : decode prog_1_method_3_code 0 = .ok (.aload_n 0, 1) := by decide +kernel
theorem d_BT_of_4 : decode prog_1_method_3_code 4 = .ok (.iload_n 1, 1) := by decide +kernel
theorem d_BT_of_5 : decode prog_1_method_3_code 5 = .ok (.invokevirtual 92, 3) := by decide +kernel
theorem d_BT_of_13 : decode prog_1_method_3_code 13 = .ok (.iload_n 2, 1) := by decide +kernel
theorem d_BT_of_14 : decode prog_1_method_3_code 14 = .ok (.bipush 10, 2) := by decide +kernel
theorem d_BT_of_16 : decode prog_1_method_3_code 16 = .ok (.bipush 15, 2) := by decide +kernel
theorem d_BT_of_18 : decode prog_1_method_3_code 18 = .ok (.invokestatic 76, 3) := by decide +kernel
theorem d_BT_of_42 : decode prog_1_method_3_code 42 = .ok (.iload_n 2, 1) := by decide +kernel
theorem d_BT_of_43 : decode prog_1_method_3_code 43 = .ok (.tableswitch 152 0 8 #[49, 59, 69, 79, 89, 106, 115, 125, 135], 49) := by decide +kernel
theorem d_BT_of_92 : decode prog_1_method_3_code 92 = .ok (.aload_n 0, 1) := by decide +kernel
theorem d_BT_of_99 : decode prog_1_method_3_code 99 = .ok (.iload_n 1, 1) := by decide +kernel
theorem d_BT_of_101 : decode prog_1_method_3_code 101 = .ok (.ireturn, 1) := by decide +kernel
theorem d_BT_of_96 : decode prog_1_method_3_code 96 = .ok (.getfield 99, 3) := by decide +kernel
theorem d_BT_of_93 : decode prog_1_method_3_code 93 = .ok (.getfield 52, 3) := by decide +kernel
theorem d_BT_of_102 : decode prog_1_method_3_code 102 = .ok (.aload_n 0, 1) := by decide +kernel
theorem d_BT_of_109 : decode prog_1_method_3_code 109 = .ok (.iload_n 1, 1) := by decide +kernel
theorem d_BT_of_111 : decode prog_1_method_3_code 111 = .ok (.ireturn, 1) := by decide +kernel
theorem d_BT_of_106 : decode prog_1_method_3_code 106 = .ok (.getfield 102, 3) := by decide +kernel
theorem d_BT_of_103 : decode prog_1_method_3_code 103 = .ok (.getfield 52, 3) := by decide +kernel
theorem d_BT_of_112 : decode prog_1_method_3_code 112 = .ok (.aload_n 0, 1) := by decide +kernel
theorem d_BT_of_119 : decode prog_1_method_3_code 119 = .ok (.iload_n 1, 1) := by decide +kernel
theorem d_BT_of_121 : decode prog_1_method_3_code 121 = .ok (.ireturn, 1) := by decide +kernel
theorem d_BT_of_116 : decode prog_1_method_3_code 116 = .ok (.getfield 105, 3) := by decide +kernel
theorem d_BT_of_113 : decode prog_1_method_3_code 113 = .ok (.getfield 52, 3) := by decide +kernel
theorem d_BT_of_122 : decode prog_1_method_3_code 122 = .ok (.aload_n 0, 1) := by decide +kernel
theorem d_BT_of_129 : decode prog_1_method_3_code 129 = .ok (.iload_n 1, 1) := by decide +kernel
theorem d_BT_of_131 : decode prog_1_method_3_code 131 = .ok (.ireturn, 1) := by decide +kernel
theorem d_BT_of_126 : decode prog_1_method_3_code 126 = .ok (.getfield 108, 3) := by decide +kernel
theorem d_BT_of_123 : decode prog_1_method_3_code 123 = .ok (.getfield 52, 3) := by decide +kernel
theorem d_BT_of_132 : decode prog_1_method_3_code 132 = .ok (.aload_n 0, 1) := by decide +kernel
theorem d_BT_of_136 : decode prog_1_method_3_code 136 = .ok (.iload_n 1, 1) := by decide +kernel
theorem d_BT_of_137 : decode prog_1_method_3_code 137 = .ok (.invokevirtual 111, 3) := by decide +kernel
theorem d_BT_of_147 : decode prog_1_method_3_code 147 = .ok (.iconst 0, 1) := by decide +kernel
theorem d_BT_of_148 : decode prog_1_method_3_code 148 = .ok (.ireturn, 1) := by decide +kernel
theorem d_BT_of_143 : decode prog_1_method_3_code 143 = .ok (.iconst 1, 1) := by decide +kernel
theorem d_BT_of_144 : decode prog_1_method_3_code 144 = .ok (.goto 4, 3) := by decide +kernel
theorem d_BT_of_140 : decode prog_1_method_3_code 140 = .ok (.ifCond .eq 7, 3) := by decide +kernel
theorem d_BT_of_133 : decode prog_1_method_3_code 133 = .ok (.getfield 52, 3) := by decide +kernel
theorem d_BT_of_149 : decode prog_1_method_3_code 149 = .ok (.aload_n 0, 1) := by decide +kernel
theorem d_BT_of_153 : decode prog_1_method_3_code 153 = .ok (.iload_n 1, 1) := by decide +kernel
theorem d_BT_of_154 : decode prog_1_method_3_code 154 = .ok (.invokevirtual 114, 3) := by decide +kernel
theorem d_BT_of_157 : decode prog_1_method_3_code 157 = .ok (.ireturn, 1) := by decide +kernel
theorem d_BT_of_150 : decode prog_1_method_3_code 150 = .ok (.getfield 52, 3) := by decide +kernel
theorem d_BT_of_158 : decode prog_1_method_3_code 158 = .ok (.aload_n 0, 1) := by decide +kernel
theorem d_BT_of_162 : decode prog_1_method_3_code 162 = .ok (.iload_n 1, 1) := by decide +kernel
theorem d_BT_of_163 : decode prog_1_method_3_code 163 = .ok (.iconst 0, 1) := by decide +kernel
theorem d_BT_of_164 : decode prog_1_method_3_code 164 = .ok (.invokevirtual 118, 3) := by decide +kernel
theorem d_BT_of_167 : decode prog_1_method_3_code 167 = .ok (.ireturn, 1) := by decide +kernel
theorem d_BT_of_159 : decode prog_1_method_3_code 159 = .ok (.getfield 52, 3) := by decide +kernel
theorem d_BT_of_168 : decode prog_1_method_3_code 168 = .ok (.aload_n 0, 1) := by decide +kernel
theorem d_BT_of_172 : decode prog_1_method_3_code 172 = .ok (.iload_n 1, 1) := by decide +kernel
theorem d_BT_of_173 : decode prog_1_method_3_code 173 = .ok (.iconst 0, 1) := by decide +kernel
theorem d_BT_of_174 : decode prog_1_method_3_code 174 = .ok (.invokevirtual 121, 3) := by decide +kernel
theorem d_BT_of_177 : decode prog_1_method_3_code 177 = .ok (.ireturn, 1) := by decide +kernel
theorem d_BT_of_169 : decode prog_1_method_3_code 169 = .ok (.getfield 52, 3) := by decide +kernel
theorem d_BT_of_178 : decode prog_1_method_3_code 178 = .ok (.aload_n 0, 1) := by decide +kernel
theorem d_BT_of_182 : decode prog_1_method_3_code 182 = .ok (.iload_n 1, 1) := by decide +kernel
theorem d_BT_of_183 : decode prog_1_method_3_code 183 = .ok (.aload_n 0, 1) := by decide +kernel
theorem d_BT_of_187 : decode prog_1_method_3_code 187 = .ok (.iconst 0, 1) := by decide +kernel
theorem d_BT_of_188 : decode prog_1_method_3_code 188 = .ok (.invokevirtual 124, 3) := by decide +kernel
theorem d_BT_of_191 : decode prog_1_method_3_code 191 = .ok (.invokevirtual 127, 3) := by decide +kernel
theorem d_BT_of_194 : decode prog_1_method_3_code 194 = .ok (.ireturn, 1) := by decide +kernel
theorem d_BT_of_184 : decode prog_1_method_3_code 184 = .ok (.getfield 52, 3) := by decide +kernel
theorem d_BT_of_179 : decode prog_1_method_3_code 179 = .ok (.getfield 52, 3) := by decide +kernel
theorem d_BT_of_195 : decode prog_1_method_3_code 195 = .ok (.iconst (-1), 1) := by decide +kernel
theorem d_BT_of_196 : decode prog_1_method_3_code 196 = .ok (.ireturn, 1) := by decide +kernel
theorem d_BT_of_24 : decode prog_1_method_3_code 24 = .ok (.aload_n 0, 1) := by decide +kernel
theorem d_BT_of_31 : decode prog_1_method_3_code 31 = .ok (.iload_n 1, 1) := by decide +kernel
theorem d_BT_of_32 : decode prog_1_method_3_code 32 = .ok (.bipush 6, 2) := by decide +kernel
theorem d_BT_of_34 : decode prog_1_method_3_code 34 = .ok (.imul, 1) := by decide +kernel
theorem d_BT_of_35 : decode prog_1_method_3_code 35 = .ok (.iload_n 2, 1) := by decide +kernel
theorem d_BT_of_36 : decode prog_1_method_3_code 36 = .ok (.iadd, 1) := by decide +kernel
theorem d_BT_of_37 : decode prog_1_method_3_code 37 = .ok (.bipush 10, 2) := by decide +kernel
theorem d_BT_of_39 : decode prog_1_method_3_code 39 = .ok (.isub, 1) := by decide +kernel
theorem d_BT_of_41 : decode prog_1_method_3_code 41 = .ok (.ireturn, 1) := by decide +kernel
theorem d_BT_of_28 : decode prog_1_method_3_code 28 = .ok (.getfield 96, 3) := by decide +kernel
theorem d_BT_of_25 : decode prog_1_method_3_code 25 = .ok (.getfield 52, 3) := by decide +kernel
theorem d_BT_of_21 : decode prog_1_method_3_code 21 = .ok (.ifCond .eq 21, 3) := by decide +kernel
theorem d_BT_of_11 : decode prog_1_method_3_code 11 = .ok (.iconst (-1), 1) := by decide +kernel
theorem d_BT_of_12 : decode prog_1_method_3_code 12 = .ok (.ireturn, 1) := by decide +kernel
theorem d_BT_of_8 : decode prog_1_method_3_code 8 = .ok (.ifCond .ne 5, 3) := by decide +kernel
theorem d_BT_of_1 : decode prog_1_method_3_code 1 = .ok (.getfield 52, 3) := by decide +kernel
theorem d_BT_of_100 : decode prog_1_method_3_code 100 = .ok (.iaload, 1) := by decide +kernel
theorem d_BT_of_110 : decode prog_1_method_3_code 110 = .ok (.iaload, 1) := by decide +kernel
theorem d_BT_of_120 : decode prog_1_method_3_code 120 = .ok (.iaload, 1) := by decide +kernel
theorem d_BT_of_130 : decode prog_1_method_3_code 130 = .ok (.iaload, 1) := by decide +kernel
theorem d_BT_of_40 : decode prog_1_method_3_code 40 = .ok (.iaload, 1) := by decide +kernel
set_option maxRecDepth 10000 in
set_option maxHeartbeats 4000000 in
theorem w_BT_of {q : QT} {z : ZT} {a1 : Int32} {a2 : Int32} {μ : Mm} {ν : Ml} (C : Ctx sdX q z prog_1_method_3_code "BesideTom" 3 6 (some (FieldType.int))) : R sdX q z 3 (φI μ ν) (F_BT_of a1 a2 μ) μ ν 0 [(0, .ref (q.2.2.1 0)), (1, .int a1), (2, .int a2)] [] := by
  unfold F_BT_of
  refine R_aload_n C 0 d_BT_of_0 rfl rfl ?_
  refine gf_BT_now C fl_BT_52 d_BT_of_1 ?_
  refine R_iload_n C 1 d_BT_of_4 rfl rfl ?_
  refine R_bind (fun v1 h2 => ?_)
  refine R_callV C (se_0 s40) (sc_0 s40 q _ _) rfl cf_Seat_has rfl ml_BT_92 im_Seat_has sl_Seat_Seat_has_Seat_has (c_Seat_has (gk C) s40 h2) (by decide) (by decide) rfl rfl (Nat.le_of_ble_eq_true rfl) d_BT_of_5 ?_
  refine R_if_ne C d_BT_of_8 (tgt := 13) (by decide) ?_ ?_
  · skip
    refine R_iload_n C 2 d_BT_of_13 rfl rfl ?_
    refine R_bipush C d_BT_of_14 (v := 10) (by decide +kernel) ?_
    refine R_bipush C d_BT_of_16 (v := 15) (by decide +kernel) ?_
    refine R_bind (fun v3 h4 => ?_)
    refine R_callS C cf_BT_within ml_BT_76 sm_BT_within (c_BT_within (gk C) h4) (by decide) (by decide) rfl rfl (Nat.le_of_ble_eq_true rfl) d_BT_of_18 ?_
    refine R_if_eq C d_BT_of_21 (tgt := 42) (by decide) ?_ ?_
    · skip
      refine R_iload_n C 2 d_BT_of_42 rfl rfl ?_
      refine R_ite (fun e22 => ?_) (fun e22 => ?_)
      · refine R_tsw C e22 d_BT_of_43 (tgt := 92) (by decide +kernel) (by decide +kernel) rfl (by decide) ?_
        refine R_aload_n C 0 d_BT_of_92 rfl rfl ?_
        refine gf_BT_now C fl_BT_52 d_BT_of_93 ?_
        refine gf_Seat_kind C s40 fl_BT_99 d_BT_of_96 ?_
        refine R_iload_n C 1 d_BT_of_99 rfl rfl ?_
        refine R_iald C (se_1 s40) (sc_1 s40 q _ _) d_BT_of_100 (fun v5 => ?_)
        exact R_iret C rfl d_BT_of_101
      refine R_ite (fun e23 => ?_) (fun e23 => ?_)
      · refine R_tsw C e23 d_BT_of_43 (tgt := 102) (by decide +kernel) (by decide +kernel) rfl (by decide) ?_
        refine R_aload_n C 0 d_BT_of_102 rfl rfl ?_
        refine gf_BT_now C fl_BT_52 d_BT_of_103 ?_
        refine gf_Seat_v C s40 fl_BT_102 d_BT_of_106 ?_
        refine R_iload_n C 1 d_BT_of_109 rfl rfl ?_
        refine R_iald C (se_2 s40) (sc_2 s40 q _ _) d_BT_of_110 (fun v6 => ?_)
        exact R_iret C rfl d_BT_of_111
      refine R_ite (fun e24 => ?_) (fun e24 => ?_)
      · refine R_tsw C e24 d_BT_of_43 (tgt := 112) (by decide +kernel) (by decide +kernel) rfl (by decide) ?_
        refine R_aload_n C 0 d_BT_of_112 rfl rfl ?_
        refine gf_BT_now C fl_BT_52 d_BT_of_113 ?_
        refine gf_Seat_desk C s40 fl_BT_105 d_BT_of_116 ?_
        refine R_iload_n C 1 d_BT_of_119 rfl rfl ?_
        refine R_iald C (se_3 s40) (sc_3 s40 q _ _) d_BT_of_120 (fun v7 => ?_)
        exact R_iret C rfl d_BT_of_121
      refine R_ite (fun e25 => ?_) (fun e25 => ?_)
      · refine R_tsw C e25 d_BT_of_43 (tgt := 122) (by decide +kernel) (by decide +kernel) rfl (by decide) ?_
        refine R_aload_n C 0 d_BT_of_122 rfl rfl ?_
        refine gf_BT_now C fl_BT_52 d_BT_of_123 ?_
        refine gf_Seat_knows C s40 fl_BT_108 d_BT_of_126 ?_
        refine R_iload_n C 1 d_BT_of_129 rfl rfl ?_
        refine R_iald C (se_4 s40) (sc_4 s40 q _ _) d_BT_of_130 (fun v8 => ?_)
        exact R_iret C rfl d_BT_of_131
      refine R_ite (fun e26 => ?_) (fun e26 => ?_)
      · refine R_tsw C e26 d_BT_of_43 (tgt := 132) (by decide +kernel) (by decide +kernel) rfl (by decide) ?_
        refine R_aload_n C 0 d_BT_of_132 rfl rfl ?_
        refine gf_BT_now C fl_BT_52 d_BT_of_133 ?_
        refine R_iload_n C 1 d_BT_of_136 rfl rfl ?_
        refine R_bind (fun v9 h10 => ?_)
        refine R_callV C (se_0 s40) (sc_0 s40 q _ _) rfl cf_Seat_isAway rfl ml_BT_111 im_Seat_isAway sl_Seat_Seat_isAway_Seat_isAway (c_Seat_isAway (gk C) s40 h10) (by decide) (by decide) rfl rfl (Nat.le_of_ble_eq_true rfl) d_BT_of_137 ?_
        refine R_if_eq C d_BT_of_140 (tgt := 147) (by decide) ?_ ?_
        · skip
          refine R_iconst C d_BT_of_147 (v := 0) (by decide +kernel) ?_
          exact R_iret C rfl d_BT_of_148
        · skip
          refine R_iconst C d_BT_of_143 (v := 1) (by decide +kernel) ?_
          refine R_goto C d_BT_of_144 (tgt := 148) (by decide) ?_
          exact R_iret C rfl d_BT_of_148
      refine R_ite (fun e27 => ?_) (fun e27 => ?_)
      · refine R_tsw C e27 d_BT_of_43 (tgt := 149) (by decide +kernel) (by decide +kernel) rfl (by decide) ?_
        refine R_aload_n C 0 d_BT_of_149 rfl rfl ?_
        refine gf_BT_now C fl_BT_52 d_BT_of_150 ?_
        refine R_iload_n C 1 d_BT_of_153 rfl rfl ?_
        refine R_bind (fun v11 h12 => ?_)
        refine R_callV C (se_0 s40) (sc_0 s40 q _ _) rfl cf_Seat_neighbours rfl ml_BT_114 im_Seat_neighbours sl_Seat_Seat_neighbours_Seat_neighbours (c_Seat_neighbours (gk C) s40 h12) (by decide) (by decide) rfl rfl (Nat.le_of_ble_eq_true rfl) d_BT_of_154 ?_
        exact R_iret C rfl d_BT_of_157
      refine R_ite (fun e28 => ?_) (fun e28 => ?_)
      · refine R_tsw C e28 d_BT_of_43 (tgt := 158) (by decide +kernel) (by decide +kernel) rfl (by decide) ?_
        refine R_aload_n C 0 d_BT_of_158 rfl rfl ?_
        refine gf_BT_now C fl_BT_52 d_BT_of_159 ?_
        refine R_iload_n C 1 d_BT_of_162 rfl rfl ?_
        refine R_iconst C d_BT_of_163 (v := 0) (by decide +kernel) ?_
        refine R_bind (fun v13 h14 => ?_)
        refine R_callV C (se_0 s40) (sc_0 s40 q _ _) rfl cf_Seat_voice rfl ml_BT_118 im_Seat_voice sl_Seat_Seat_voice_Seat_voice (c_Seat_voice (gk C) s40 h14) (by decide) (by decide) rfl rfl (Nat.le_of_ble_eq_true rfl) d_BT_of_164 ?_
        exact R_iret C rfl d_BT_of_167
      refine R_ite (fun e29 => ?_) (fun e29 => ?_)
      · refine R_tsw C e29 d_BT_of_43 (tgt := 168) (by decide +kernel) (by decide +kernel) rfl (by decide) ?_
        refine R_aload_n C 0 d_BT_of_168 rfl rfl ?_
        refine gf_BT_now C fl_BT_52 d_BT_of_169 ?_
        refine R_iload_n C 1 d_BT_of_172 rfl rfl ?_
        refine R_iconst C d_BT_of_173 (v := 0) (by decide +kernel) ?_
        refine R_bind (fun v15 h16 => ?_)
        refine R_callV C (se_0 s40) (sc_0 s40 q _ _) rfl cf_Seat_talk rfl ml_BT_121 im_Seat_talk sl_Seat_Seat_talk_Seat_talk (c_Seat_talk (gk C) s40 h16) (by decide) (by decide) rfl rfl (Nat.le_of_ble_eq_true rfl) d_BT_of_174 ?_
        exact R_iret C rfl d_BT_of_177
      refine R_ite (fun e30 => ?_) (fun e30 => ?_)
      · refine R_tsw C e30 d_BT_of_43 (tgt := 178) (by decide +kernel) (by decide +kernel) rfl (by decide) ?_
        refine R_aload_n C 0 d_BT_of_178 rfl rfl ?_
        refine gf_BT_now C fl_BT_52 d_BT_of_179 ?_
        refine R_iload_n C 1 d_BT_of_182 rfl rfl ?_
        refine R_aload_n C 0 d_BT_of_183 rfl rfl ?_
        refine gf_BT_now C fl_BT_52 d_BT_of_184 ?_
        refine R_iconst C d_BT_of_187 (v := 0) (by decide +kernel) ?_
        refine R_bind (fun v17 h18 => ?_)
        refine R_callV C (se_0 s40) (sc_0 s40 q _ _) rfl cf_Seat_noise rfl ml_BT_124 im_Seat_noise sl_Seat_Seat_noise_Seat_noise (c_Seat_noise (gk C) s40 h18) (by decide) (by decide) rfl rfl (Nat.le_of_ble_eq_true rfl) d_BT_of_188 ?_
        refine R_bind (fun v19 h20 => ?_)
        refine R_callV C (se_0 s40) (sc_0 s40 q _ _) rfl cf_Seat_learns rfl ml_BT_127 im_Seat_learns sl_Seat_Seat_learns_Seat_learns (c_Seat_learns (gk C) s40 h20) (by decide) (by decide) rfl rfl (Nat.le_of_ble_eq_true rfl) d_BT_of_191 ?_
        exact R_iret C rfl d_BT_of_194
      refine R_tswd C d_BT_of_43 (tgt := 195) (sw_out (L := [0, 1, 2, 3, 4, 5, 6, 7, 8]) (n := 9) (by decide +kernel) (by decide +kernel) (List.forall_mem_cons.mpr ⟨e22, List.forall_mem_cons.mpr ⟨e23, List.forall_mem_cons.mpr ⟨e24, List.forall_mem_cons.mpr ⟨e25, List.forall_mem_cons.mpr ⟨e26, List.forall_mem_cons.mpr ⟨e27, List.forall_mem_cons.mpr ⟨e28, List.forall_mem_cons.mpr ⟨e29, List.forall_mem_cons.mpr ⟨e30, fun _ h => absurd h List.not_mem_nil⟩⟩⟩⟩⟩⟩⟩⟩⟩)) (by decide) ?_
      refine R_iconst C d_BT_of_195 (v := (-1)) (by decide +kernel) ?_
      exact R_iret C rfl d_BT_of_196
    · skip
      refine R_aload_n C 0 d_BT_of_24 rfl rfl ?_
      refine gf_BT_now C fl_BT_52 d_BT_of_25 ?_
      refine gf_Seat_mouths C s40 fl_BT_96 d_BT_of_28 ?_
      refine R_iload_n C 1 d_BT_of_31 rfl rfl ?_
      refine R_bipush C d_BT_of_32 (v := 6) (by decide +kernel) ?_
      refine R_imul C d_BT_of_34 ?_
      refine R_iload_n C 2 d_BT_of_35 rfl rfl ?_
      refine R_iadd C d_BT_of_36 ?_
      refine R_bipush C d_BT_of_37 (v := 10) (by decide +kernel) ?_
      refine R_isub C d_BT_of_39 ?_
      refine R_iald C (se_6 s40) (sc_6 s40 q _ _) d_BT_of_40 (fun v21 => ?_)
      exact R_iret C rfl d_BT_of_41
  · skip
    refine R_iconst C d_BT_of_11 (v := (-1)) (by decide +kernel) ?_
    exact R_iret C rfl d_BT_of_12
theorem c_BT_of {q : QT} (hg : GOk sdX q) {a1 : Int32} {a2 : Int32} {μ : Mm} {ν : Ml} {o : Int32} (ho : F_BT_of a1 a2 μ = some o) : Ct sdX q y_BT_of prog_1_method_3_code 3 (some (FieldType.int)) 6 [.ref (q.2.2.1 0), .int a1, .int a2] μ ν ((φI μ ν) o).1 ((φI μ ν) o).2.1 ((φI μ ν) o).2.2 := Ct_of rfl hg (fun z C => w_BT_of C) (Nat.le_of_ble_eq_true rfl) ho
def L_BT_seat_21 (f6 : Int32) (k : Int32 → Mm → Option (Int32 × Mm)) : Nat → Int32 → Int32 → Int32 → Mm → Option (Int32 × Mm)
  | 0, _, _, _, _ => none
  | n + 1, s3, s4, s5, μ7 => (if 6 ≤ s5 then k s4 μ7 else (F_Seat_becomes 60 40 μ7).bind fun μ8 => (F_Seat_moves 60 f6 s5 μ8).bind fun μ10 => (F_Seat_noise 60 0 μ10).bind fun v12 => jn (α := Int32 × Int32) (fun K16 => (if s3 ≤ v12 then K16 (s3, s4) else K16 (v12, s5))) (fun (p_ : Int32 × Int32) => match p_ with | (j14, j15) => L_BT_seat_21 f6 k n j14 j15 (s5 + 1) μ10))
def F_BT_seat (a1 : Int32) (μ : Mm) : Option (Int32 × Mm) := (F_Seat_has 40 a1 μ).bind fun v1 => (if v1 = 0 then some ((-1), μ) else L_BT_seat_21 a1 (fun (x17 : Int32) (μ18 : Mm) => some (x17, μ18)) fu (1000000000) 0 0 μ)
theorem d_BT_seat_0 : decode prog_1_method_16_code 0 = .ok (.aload_n 0, 1) := by decide +kernel
theorem d_BT_seat_4 : decode prog_1_method_16_code 4 = .ok (.iload_n 1, 1) := by decide +kernel
theorem d_BT_seat_5 : decode prog_1_method_16_code 5 = .ok (.invokevirtual 92, 3) := by decide +kernel
theorem d_BT_seat_13 : decode prog_1_method_16_code 13 = .ok (.ldc 196, 2) := by decide +kernel
theorem d_BT_seat_15 : decode prog_1_method_16_code 15 = .ok (.istore_n 2, 1) := by decide +kernel
theorem d_BT_seat_16 : decode prog_1_method_16_code 16 = .ok (.iconst 0, 1) := by decide +kernel
theorem d_BT_seat_17 : decode prog_1_method_16_code 17 = .ok (.istore_n 3, 1) := by decide +kernel
theorem d_BT_seat_18 : decode prog_1_method_16_code 18 = .ok (.iconst 0, 1) := by decide +kernel
theorem d_BT_seat_19 : decode prog_1_method_16_code 19 = .ok (.istore 4, 2) := by decide +kernel
theorem d_BT_seat_21 : decode prog_1_method_16_code 21 = .ok (.iload 4, 2) := by decide +kernel
theorem d_BT_seat_23 : decode prog_1_method_16_code 23 = .ok (.bipush 6, 2) := by decide +kernel
theorem d_BT_seat_28 : decode prog_1_method_16_code 28 = .ok (.aload_n 0, 1) := by decide +kernel
theorem d_BT_seat_32 : decode prog_1_method_16_code 32 = .ok (.aload_n 0, 1) := by decide +kernel
theorem d_BT_seat_36 : decode prog_1_method_16_code 36 = .ok (.invokevirtual 192, 3) := by decide +kernel
theorem d_BT_seat_39 : decode prog_1_method_16_code 39 = .ok (.aload_n 0, 1) := by decide +kernel
theorem d_BT_seat_43 : decode prog_1_method_16_code 43 = .ok (.iload_n 1, 1) := by decide +kernel
theorem d_BT_seat_44 : decode prog_1_method_16_code 44 = .ok (.iload 4, 2) := by decide +kernel
theorem d_BT_seat_46 : decode prog_1_method_16_code 46 = .ok (.invokevirtual 133, 3) := by decide +kernel
theorem d_BT_seat_49 : decode prog_1_method_16_code 49 = .ok (.aload_n 0, 1) := by decide +kernel
theorem d_BT_seat_53 : decode prog_1_method_16_code 53 = .ok (.iconst 0, 1) := by decide +kernel
theorem d_BT_seat_54 : decode prog_1_method_16_code 54 = .ok (.invokevirtual 124, 3) := by decide +kernel
theorem d_BT_seat_57 : decode prog_1_method_16_code 57 = .ok (.istore 5, 2) := by decide +kernel
theorem d_BT_seat_59 : decode prog_1_method_16_code 59 = .ok (.iload 5, 2) := by decide +kernel
theorem d_BT_seat_61 : decode prog_1_method_16_code 61 = .ok (.iload_n 2, 1) := by decide +kernel
theorem d_BT_seat_65 : decode prog_1_method_16_code 65 = .ok (.iload 5, 2) := by decide +kernel
theorem d_BT_seat_67 : decode prog_1_method_16_code 67 = .ok (.istore_n 2, 1) := by decide +kernel
theorem d_BT_seat_68 : decode prog_1_method_16_code 68 = .ok (.iload 4, 2) := by decide +kernel
theorem d_BT_seat_70 : decode prog_1_method_16_code 70 = .ok (.istore_n 3, 1) := by decide +kernel
theorem d_BT_seat_62 : decode prog_1_method_16_code 62 = .ok (.if_icmp .ge 9, 3) := by decide +kernel
theorem d_BT_seat_71 : decode prog_1_method_16_code 71 = .ok (.iinc 4 1, 3) := by decide +kernel
theorem d_BT_seat_74 : decode prog_1_method_16_code 74 = .ok (.goto (-53), 3) := by decide +kernel
theorem d_BT_seat_50 : decode prog_1_method_16_code 50 = .ok (.getfield 56, 3) := by decide +kernel
theorem d_BT_seat_40 : decode prog_1_method_16_code 40 = .ok (.getfield 56, 3) := by decide +kernel
theorem d_BT_seat_33 : decode prog_1_method_16_code 33 = .ok (.getfield 52, 3) := by decide +kernel
theorem d_BT_seat_29 : decode prog_1_method_16_code 29 = .ok (.getfield 56, 3) := by decide +kernel
theorem d_BT_seat_25 : decode prog_1_method_16_code 25 = .ok (.if_icmp .ge 52, 3) := by decide +kernel
set_option maxRecDepth 10000 in
set_option maxHeartbeats 4000000 in
theorem W_BT_seat_21 {q : QT} {z : ZT} {ν : Ml} {f6 : Int32} {k : Int32 → Mm → Option (Int32 × Mm)} (C : Ctx sdX q z prog_1_method_16_code "BesideTom" 6 6 (some (FieldType.int))) (hk : ∀ (e0_ : Int32) (me_ : Mm), R sdX q z 6 (φIm ν) (k e0_ me_) me_ ν 77 [(3, .int e0_)] []) : ∀ (n : Nat) (s3 : Int32) (s4 : Int32) (s5 : Int32) (μ7 : Mm), R sdX q z 6 (φIm ν) (L_BT_seat_21 f6 k n s3 s4 s5 μ7) μ7 ν 21 [(2, .int s3), (3, .int s4), (4, .int s5), (0, .ref (q.2.2.1 0)), (1, .int f6)] [] := by
  intro n
  induction n with
  | zero =>
    intros
    exact R_none
  | succ n ih =>
    intro s3 s4 s5 μ7
    rw [L_BT_seat_21]
    refine R_iload C 2 d_BT_seat_21 rfl ?_
    refine R_bipush C d_BT_seat_23 (v := 6) (by decide +kernel) ?_
    refine R_icmp_ge C d_BT_seat_25 (tgt := 77) (by decide) ?_ ?_
    · skip
      exact R_sub [1] rfl (hk s4 μ7)
    · skip
      refine R_aload_n C 3 d_BT_seat_28 rfl rfl ?_
      refine gf_BT_asked C fl_BT_56 d_BT_seat_29 ?_
      refine R_aload_n C 3 d_BT_seat_32 rfl rfl ?_
      refine gf_BT_now C fl_BT_52 d_BT_seat_33 ?_
      refine R_bind (fun μ8 h9 => ?_)
      refine R_callV C (se_0 s60) (sc_0 s60 q _ _) rfl cf_Seat_becomes rfl ml_BT_192 im_Seat_becomes sl_Seat_Seat_becomes_Seat_becomes (c_Seat_becomes (gk C) s60 s40 h9) (by decide) (by decide) rfl rfl (Nat.le_of_ble_eq_true rfl) d_BT_seat_36 ?_
      refine R_aload_n C 3 d_BT_seat_39 rfl rfl ?_
      refine gf_BT_asked C fl_BT_56 d_BT_seat_40 ?_
      refine R_iload_n C 4 d_BT_seat_43 rfl rfl ?_
      refine R_iload C 2 d_BT_seat_44 rfl ?_
      refine R_bind (fun μ10 h11 => ?_)
      refine R_callV C (se_0 s60) (sc_0 s60 q _ _) rfl cf_Seat_moves rfl ml_BT_133 im_Seat_moves sl_Seat_Seat_moves_Seat_moves (c_Seat_moves (gk C) s60 h11) (by decide) (by decide) rfl rfl (Nat.le_of_ble_eq_true rfl) d_BT_seat_46 ?_
      refine R_aload_n C 3 d_BT_seat_49 rfl rfl ?_
      refine gf_BT_asked C fl_BT_56 d_BT_seat_50 ?_
      refine R_iconst C d_BT_seat_53 (v := 0) (by decide +kernel) ?_
      refine R_bind (fun v12 h13 => ?_)
      refine R_callV C (se_0 s60) (sc_0 s60 q _ _) rfl cf_Seat_noise rfl ml_BT_124 im_Seat_noise sl_Seat_Seat_noise_Seat_noise (c_Seat_noise (gk C) s60 h13) (by decide) (by decide) rfl rfl (Nat.le_of_ble_eq_true rfl) d_BT_seat_54 ?_
      refine R_istore C (lv' := [(5, .int v12), (2, .int s3), (3, .int s4), (4, .int s5), (0, .ref (q.2.2.1 0)), (1, .int f6)]) d_BT_seat_57 (by decide) rfl ?_
      refine R_iload C 0 d_BT_seat_59 rfl ?_
      refine R_iload_n C 1 d_BT_seat_61 rfl rfl ?_
      refine R_jn (fun K16 => ∀ (j14 : Int32) (j15 : Int32), R sdX q z 6 (φIm ν) (K16 (j14, j15)) μ10 ν 71 [(0, .ref (q.2.2.1 0)), (1, .int f6), (2, .int j14), (3, .int j15), (4, .int s5)] []) ?_ (fun K16 hK16 => ?_)
      · intro j14 j15
        refine R_iinc C 4 d_BT_seat_71 rfl (iinc_v _ (v := 1) (by decide +kernel)) (lv' := [(4, .int (s5 + 1)), (0, .ref (q.2.2.1 0)), (1, .int f6), (2, .int j14), (3, .int j15)]) (by decide) rfl ?_
        refine R_goto C d_BT_seat_74 (tgt := 21) (by decide) ?_
        exact R_sub [3, 4, 0, 1, 2] rfl (ih j14 j15 (s5 + 1) μ10)
      · skip
        refine R_icmp_ge C d_BT_seat_62 (tgt := 71) (by decide) ?_ ?_
        · skip
          exact R_sub [4, 5, 1, 2, 3] rfl (hK16 s3 s4)
        · skip
          refine R_iload C 0 d_BT_seat_65 rfl ?_
          refine R_istore_n C (lv' := [(2, .int v12), (5, .int v12), (3, .int s4), (4, .int s5), (0, .ref (q.2.2.1 0)), (1, .int f6)]) d_BT_seat_67 rfl (by decide) rfl ?_
          refine R_iload C 3 d_BT_seat_68 rfl ?_
          refine R_istore_n C (lv' := [(3, .int s5), (2, .int v12), (5, .int v12), (4, .int s5), (0, .ref (q.2.2.1 0)), (1, .int f6)]) d_BT_seat_70 rfl (by decide) rfl ?_
          exact R_sub [4, 5, 1, 0, 3] rfl (hK16 v12 s5)
theorem d_BT_seat_77 : decode prog_1_method_16_code 77 = .ok (.iload_n 3, 1) := by decide +kernel
theorem d_BT_seat_78 : decode prog_1_method_16_code 78 = .ok (.ireturn, 1) := by decide +kernel
theorem d_BT_seat_11 : decode prog_1_method_16_code 11 = .ok (.iconst (-1), 1) := by decide +kernel
theorem d_BT_seat_12 : decode prog_1_method_16_code 12 = .ok (.ireturn, 1) := by decide +kernel
theorem d_BT_seat_8 : decode prog_1_method_16_code 8 = .ok (.ifCond .ne 5, 3) := by decide +kernel
theorem d_BT_seat_1 : decode prog_1_method_16_code 1 = .ok (.getfield 52, 3) := by decide +kernel
set_option maxRecDepth 10000 in
set_option maxHeartbeats 4000000 in
theorem w_BT_seat {q : QT} {z : ZT} {a1 : Int32} {μ : Mm} {ν : Ml} (C : Ctx sdX q z prog_1_method_16_code "BesideTom" 6 6 (some (FieldType.int))) : R sdX q z 6 (φIm ν) (F_BT_seat a1 μ) μ ν 0 [(0, .ref (q.2.2.1 0)), (1, .int a1)] [] := by
  unfold F_BT_seat
  refine R_aload_n C 0 d_BT_seat_0 rfl rfl ?_
  refine gf_BT_now C fl_BT_52 d_BT_seat_1 ?_
  refine R_iload_n C 1 d_BT_seat_4 rfl rfl ?_
  refine R_bind (fun v1 h2 => ?_)
  refine R_callV C (se_0 s40) (sc_0 s40 q _ _) rfl cf_Seat_has rfl ml_BT_92 im_Seat_has sl_Seat_Seat_has_Seat_has (c_Seat_has (gk C) s40 h2) (by decide) (by decide) rfl rfl (Nat.le_of_ble_eq_true rfl) d_BT_seat_5 ?_
  refine R_if_ne C d_BT_seat_8 (tgt := 13) (by decide) ?_ ?_
  · skip
    refine R_ldc C k_BT_196 d_BT_seat_13 ?_
    refine R_istore_n C (lv' := [(2, .int (1000000000)), (0, .ref (q.2.2.1 0)), (1, .int a1)]) d_BT_seat_15 rfl (by decide) rfl ?_
    refine R_iconst C d_BT_seat_16 (v := 0) (by decide +kernel) ?_
    refine R_istore_n C (lv' := [(3, .int 0), (2, .int (1000000000)), (0, .ref (q.2.2.1 0)), (1, .int a1)]) d_BT_seat_17 rfl (by decide) rfl ?_
    refine R_iconst C d_BT_seat_18 (v := 0) (by decide +kernel) ?_
    refine R_istore C (lv' := [(4, .int 0), (3, .int 0), (2, .int (1000000000)), (0, .ref (q.2.2.1 0)), (1, .int a1)]) d_BT_seat_19 (by decide) rfl ?_
    refine R_sub [2, 1, 0, 3, 4] rfl ?_
    refine W_BT_seat_21 C ?_ fu _ _ _ _
    intro x17 μ18
    refine R_iload_n C 0 d_BT_seat_77 rfl rfl ?_
    exact R_iret C rfl d_BT_seat_78
  · skip
    refine R_iconst C d_BT_seat_11 (v := (-1)) (by decide +kernel) ?_
    exact R_iret C rfl d_BT_seat_12
theorem c_BT_seat {q : QT} (hg : GOk sdX q) {a1 : Int32} {μ : Mm} {ν : Ml} {o : Int32 × Mm} (ho : F_BT_seat a1 μ = some o) : Ct sdX q y_BT_seat prog_1_method_16_code 6 (some (FieldType.int)) 6 [.ref (q.2.2.1 0), .int a1] μ ν ((φIm ν) o).1 ((φIm ν) o).2.1 ((φIm ν) o).2.2 := Ct_of rfl hg (fun z C => w_BT_seat C) (Nat.le_of_ble_eq_true rfl) ho
def F_PK_tells (this : Nat) (a2 : Int32) (μ : Mm) : Option (Int32 × Mm) := (F_Trace_begins 12 μ).bind fun μ1 => (V_chats this a2 μ1).bind fun p_ => match p_ with | (v3, μ4) => some ((v3 * 2), μ4)
theorem d_PK_tells_0 : decode prog_3_method_7_code 0 = .ok (.aload_n 1, 1) := by decide +kernel
theorem d_PK_tells_1 : decode prog_3_method_7_code 1 = .ok (.bipush 12, 2) := by decide +kernel
theorem d_PK_tells_3 : decode prog_3_method_7_code 3 = .ok (.invokevirtual 7, 3) := by decide +kernel
theorem d_PK_tells_6 : decode prog_3_method_7_code 6 = .ok (.aload_n 0, 1) := by decide +kernel
theorem d_PK_tells_7 : decode prog_3_method_7_code 7 = .ok (.aload_n 1, 1) := by decide +kernel
theorem d_PK_tells_8 : decode prog_3_method_7_code 8 = .ok (.iload_n 2, 1) := by decide +kernel
theorem d_PK_tells_9 : decode prog_3_method_7_code 9 = .ok (.invokevirtual 26, 3) := by decide +kernel
theorem d_PK_tells_12 : decode prog_3_method_7_code 12 = .ok (.iconst 2, 1) := by decide +kernel
theorem d_PK_tells_13 : decode prog_3_method_7_code 13 = .ok (.imul, 1) := by decide +kernel
theorem d_PK_tells_14 : decode prog_3_method_7_code 14 = .ok (.ireturn, 1) := by decide +kernel
set_option maxRecDepth 10000 in
set_option maxHeartbeats 4000000 in
theorem w_PK_tells {q : QT} {z : ZT} {this : Nat} {a2 : Int32} {μ : Mm} {ν : Ml} (C : Ctx sdX q z prog_3_method_7_code "BesideTom$PupilKind" 3 6 (some (FieldType.int))) (h_this : this ∈ kd_PK) : R sdX q z 3 (φIm ν) (F_PK_tells this a2 μ) μ ν 0 [(0, .ref (q.2.2.1 this)), (1, .ref (q.2.2.1 11)), (2, .int a2)] [] := by
  unfold F_PK_tells
  refine R_aload_n C 1 d_PK_tells_0 rfl rfl ?_
  refine R_bipush C d_PK_tells_1 (v := 12) (by decide +kernel) ?_
  refine R_bind (fun μ1 h2 => ?_)
  refine R_callV C xm_11 (xc_11 q _ _) rfl cf_Trace_begins rfl ml_PK_7 im_Trace_begins sl_Trace_Trace_begins_Trace_begins (c_Trace_begins (gk C) h2) (by decide) (by decide) rfl rfl (Nat.le_of_ble_eq_true rfl) d_PK_tells_3 ?_
  refine R_aload_n C 0 d_PK_tells_6 rfl rfl ?_
  refine R_aload_n C 1 d_PK_tells_7 rfl rfl ?_
  refine R_iload_n C 2 d_PK_tells_8 rfl rfl ?_
  refine R_bind (fun r_ h5 => ?_)
  obtain ⟨v3, μ4⟩ := r_
  refine Vchats_PK_c C h_this ml_PK_26 h5 (by decide) (Nat.le_of_ble_eq_true rfl) d_PK_tells_9 ?_
  refine R_iconst C d_PK_tells_12 (v := 2) (by decide +kernel) ?_
  refine R_imul C d_PK_tells_13 ?_
  exact R_iret C rfl d_PK_tells_14
theorem c_PK_tells {q : QT} (hg : GOk sdX q) {this : Nat} {a2 : Int32} {μ : Mm} {ν : Ml} (h_this : this ∈ kd_PK) {o : Int32 × Mm} (ho : F_PK_tells this a2 μ = some o) : Ct sdX q y_PK_tells prog_3_method_7_code 3 (some (FieldType.int)) 6 [.ref (q.2.2.1 this), .ref (q.2.2.1 11), .int a2] μ ν ((φIm ν) o).1 ((φIm ν) o).2.1 ((φIm ν) o).2.2 := Ct_of rfl hg (fun z C => w_PK_tells C h_this) (Nat.le_of_ble_eq_true rfl) ho
def F_BT_told (a1 : Int32) (μ : Mm) : Option (Int32) := (F_BT_within a1 10 15).bind fun v1 => (if v1 = 0 then (if a1 = 0 then some (μ 40 2) else if a1 = 1 then some (μ 40 3) else if a1 = 2 then some (μ 40 4) else if a1 = 3 then some (μ 40 5) else if a1 = 4 then (F_Seat_noise 40 0 μ).bind fun v3 => some v3 else if a1 = 5 then (F_Seat_knowsOfAll 40 μ).bind fun v5 => some v5 else if a1 = 6 then (F_Seat_noise 40 0 μ).bind fun v7 => (F_Seat_learnsOfAll 40 v7 μ).bind fun v9 => some v9 else some (-1)) else (F_Seat_whoHas 40 (a1 - 10) μ).bind fun v11 => (if 0 ≤ v11 then some v11 else some (-5)))
theorem d_BT_told_0 : decode prog_1_method_10_code 0 = .ok (.iload_n 1, 1) := by decide +kernel
theorem d_BT_told_1 : decode prog_1_method_10_code 1 = .ok (.bipush 10, 2) := by decide +kernel
theorem d_BT_told_3 : decode prog_1_method_10_code 3 = .ok (.bipush 15, 2) := by decide +kernel
theorem d_BT_told_5 : decode prog_1_method_10_code 5 = .ok (.invokestatic 76, 3) := by decide +kernel
theorem d_BT_told_34 : decode prog_1_method_10_code 34 = .ok (.iload_n 1, 1) := by decide +kernel
theorem d_BT_told_35 : decode prog_1_method_10_code 35 = .ok (.tableswitch 106 0 6 #[41, 49, 57, 65, 73, 82, 90], 41) := by decide +kernel
theorem d_BT_told_76 : decode prog_1_method_10_code 76 = .ok (.aload_n 0, 1) := by decide +kernel
theorem d_BT_told_83 : decode prog_1_method_10_code 83 = .ok (.ireturn, 1) := by decide +kernel
theorem d_BT_told_80 : decode prog_1_method_10_code 80 = .ok (.getfield 173, 3) := by decide +kernel
theorem d_BT_told_77 : decode prog_1_method_10_code 77 = .ok (.getfield 52, 3) := by decide +kernel
theorem d_BT_told_84 : decode prog_1_method_10_code 84 = .ok (.aload_n 0, 1) := by decide +kernel
theorem d_BT_told_91 : decode prog_1_method_10_code 91 = .ok (.ireturn, 1) := by decide +kernel
theorem d_BT_told_88 : decode prog_1_method_10_code 88 = .ok (.getfield 176, 3) := by decide +kernel
theorem d_BT_told_85 : decode prog_1_method_10_code 85 = .ok (.getfield 52, 3) := by decide +kernel
theorem d_BT_told_92 : decode prog_1_method_10_code 92 = .ok (.aload_n 0, 1) := by decide +kernel
theorem d_BT_told_99 : decode prog_1_method_10_code 99 = .ok (.ireturn, 1) := by decide +kernel
theorem d_BT_told_96 : decode prog_1_method_10_code 96 = .ok (.getfield 158, 3) := by decide +kernel
theorem d_BT_told_93 : decode prog_1_method_10_code 93 = .ok (.getfield 52, 3) := by decide +kernel
theorem d_BT_told_100 : decode prog_1_method_10_code 100 = .ok (.aload_n 0, 1) := by decide +kernel
theorem d_BT_told_107 : decode prog_1_method_10_code 107 = .ok (.ireturn, 1) := by decide +kernel
theorem d_BT_told_104 : decode prog_1_method_10_code 104 = .ok (.getfield 162, 3) := by decide +kernel
theorem d_BT_told_101 : decode prog_1_method_10_code 101 = .ok (.getfield 52, 3) := by decide +kernel
theorem d_BT_told_108 : decode prog_1_method_10_code 108 = .ok (.aload_n 0, 1) := by decide +kernel
theorem d_BT_told_112 : decode prog_1_method_10_code 112 = .ok (.iconst 0, 1) := by decide +kernel
theorem d_BT_told_113 : decode prog_1_method_10_code 113 = .ok (.invokevirtual 124, 3) := by decide +kernel
theorem d_BT_told_116 : decode prog_1_method_10_code 116 = .ok (.ireturn, 1) := by decide +kernel
theorem d_BT_told_109 : decode prog_1_method_10_code 109 = .ok (.getfield 52, 3) := by decide +kernel
theorem d_BT_told_117 : decode prog_1_method_10_code 117 = .ok (.aload_n 0, 1) := by decide +kernel
theorem d_BT_told_121 : decode prog_1_method_10_code 121 = .ok (.invokevirtual 179, 3) := by decide +kernel
theorem d_BT_told_124 : decode prog_1_method_10_code 124 = .ok (.ireturn, 1) := by decide +kernel
theorem d_BT_told_118 : decode prog_1_method_10_code 118 = .ok (.getfield 52, 3) := by decide +kernel
theorem d_BT_told_125 : decode prog_1_method_10_code 125 = .ok (.aload_n 0, 1) := by decide +kernel
theorem d_BT_told_129 : decode prog_1_method_10_code 129 = .ok (.aload_n 0, 1) := by decide +kernel
theorem d_BT_told_133 : decode prog_1_method_10_code 133 = .ok (.iconst 0, 1) := by decide +kernel
theorem d_BT_told_134 : decode prog_1_method_10_code 134 = .ok (.invokevirtual 124, 3) := by decide +kernel
theorem d_BT_told_137 : decode prog_1_method_10_code 137 = .ok (.invokevirtual 182, 3) := by decide +kernel
theorem d_BT_told_140 : decode prog_1_method_10_code 140 = .ok (.ireturn, 1) := by decide +kernel
theorem d_BT_told_130 : decode prog_1_method_10_code 130 = .ok (.getfield 52, 3) := by decide +kernel
theorem d_BT_told_126 : decode prog_1_method_10_code 126 = .ok (.getfield 52, 3) := by decide +kernel
theorem d_BT_told_141 : decode prog_1_method_10_code 141 = .ok (.iconst (-1), 1) := by decide +kernel
theorem d_BT_told_142 : decode prog_1_method_10_code 142 = .ok (.ireturn, 1) := by decide +kernel
theorem d_BT_told_11 : decode prog_1_method_10_code 11 = .ok (.aload_n 0, 1) := by decide +kernel
theorem d_BT_told_15 : decode prog_1_method_10_code 15 = .ok (.iload_n 1, 1) := by decide +kernel
theorem d_BT_told_16 : decode prog_1_method_10_code 16 = .ok (.bipush 10, 2) := by decide +kernel
theorem d_BT_told_18 : decode prog_1_method_10_code 18 = .ok (.isub, 1) := by decide +kernel
theorem d_BT_told_19 : decode prog_1_method_10_code 19 = .ok (.invokevirtual 170, 3) := by decide +kernel
theorem d_BT_told_22 : decode prog_1_method_10_code 22 = .ok (.istore_n 2, 1) := by decide +kernel
theorem d_BT_told_23 : decode prog_1_method_10_code 23 = .ok (.iload_n 2, 1) := by decide +kernel
theorem d_BT_told_32 : decode prog_1_method_10_code 32 = .ok (.iload_n 2, 1) := by decide +kernel
theorem d_BT_told_33 : decode prog_1_method_10_code 33 = .ok (.ireturn, 1) := by decide +kernel
theorem d_BT_told_27 : decode prog_1_method_10_code 27 = .ok (.bipush (-5), 2) := by decide +kernel
theorem d_BT_told_29 : decode prog_1_method_10_code 29 = .ok (.goto 4, 3) := by decide +kernel
theorem d_BT_told_24 : decode prog_1_method_10_code 24 = .ok (.ifCond .ge 8, 3) := by decide +kernel
theorem d_BT_told_12 : decode prog_1_method_10_code 12 = .ok (.getfield 52, 3) := by decide +kernel
theorem d_BT_told_8 : decode prog_1_method_10_code 8 = .ok (.ifCond .eq 26, 3) := by decide +kernel
set_option maxRecDepth 10000 in
set_option maxHeartbeats 4000000 in
theorem w_BT_told {q : QT} {z : ZT} {a1 : Int32} {μ : Mm} {ν : Ml} (C : Ctx sdX q z prog_1_method_10_code "BesideTom" 3 6 (some (FieldType.int))) : R sdX q z 3 (φI μ ν) (F_BT_told a1 μ) μ ν 0 [(0, .ref (q.2.2.1 0)), (1, .int a1)] [] := by
  unfold F_BT_told
  refine R_iload_n C 1 d_BT_told_0 rfl rfl ?_
  refine R_bipush C d_BT_told_1 (v := 10) (by decide +kernel) ?_
  refine R_bipush C d_BT_told_3 (v := 15) (by decide +kernel) ?_
  refine R_bind (fun v1 h2 => ?_)
  refine R_callS C cf_BT_within ml_BT_76 sm_BT_within (c_BT_within (gk C) h2) (by decide) (by decide) rfl rfl (Nat.le_of_ble_eq_true rfl) d_BT_told_5 ?_
  refine R_if_eq C d_BT_told_8 (tgt := 34) (by decide) ?_ ?_
  · skip
    refine R_iload_n C 1 d_BT_told_34 rfl rfl ?_
    refine R_ite (fun e13 => ?_) (fun e13 => ?_)
    · refine R_tsw C e13 d_BT_told_35 (tgt := 76) (by decide +kernel) (by decide +kernel) rfl (by decide) ?_
      refine R_aload_n C 0 d_BT_told_76 rfl rfl ?_
      refine gf_BT_now C fl_BT_52 d_BT_told_77 ?_
      refine gf_Seat_week C s40 fl_BT_173 d_BT_told_80 ?_
      exact R_iret C rfl d_BT_told_83
    refine R_ite (fun e14 => ?_) (fun e14 => ?_)
    · refine R_tsw C e14 d_BT_told_35 (tgt := 84) (by decide +kernel) (by decide +kernel) rfl (by decide) ?_
      refine R_aload_n C 0 d_BT_told_84 rfl rfl ?_
      refine gf_BT_now C fl_BT_52 d_BT_told_85 ?_
      refine gf_Seat_wear C s40 fl_BT_176 d_BT_told_88 ?_
      exact R_iret C rfl d_BT_told_91
    refine R_ite (fun e15 => ?_) (fun e15 => ?_)
    · refine R_tsw C e15 d_BT_told_35 (tgt := 92) (by decide +kernel) (by decide +kernel) rfl (by decide) ?_
      refine R_aload_n C 0 d_BT_told_92 rfl rfl ?_
      refine gf_BT_now C fl_BT_52 d_BT_told_93 ?_
      refine gf_Seat_wears C s40 fl_BT_158 d_BT_told_96 ?_
      exact R_iret C rfl d_BT_told_99
    refine R_ite (fun e16 => ?_) (fun e16 => ?_)
    · refine R_tsw C e16 d_BT_told_35 (tgt := 100) (by decide +kernel) (by decide +kernel) rfl (by decide) ?_
      refine R_aload_n C 0 d_BT_told_100 rfl rfl ?_
      refine gf_BT_now C fl_BT_52 d_BT_told_101 ?_
      refine gf_Seat_cost C s40 fl_BT_162 d_BT_told_104 ?_
      exact R_iret C rfl d_BT_told_107
    refine R_ite (fun e17 => ?_) (fun e17 => ?_)
    · refine R_tsw C e17 d_BT_told_35 (tgt := 108) (by decide +kernel) (by decide +kernel) rfl (by decide) ?_
      refine R_aload_n C 0 d_BT_told_108 rfl rfl ?_
      refine gf_BT_now C fl_BT_52 d_BT_told_109 ?_
      refine R_iconst C d_BT_told_112 (v := 0) (by decide +kernel) ?_
      refine R_bind (fun v3 h4 => ?_)
      refine R_callV C (se_0 s40) (sc_0 s40 q _ _) rfl cf_Seat_noise rfl ml_BT_124 im_Seat_noise sl_Seat_Seat_noise_Seat_noise (c_Seat_noise (gk C) s40 h4) (by decide) (by decide) rfl rfl (Nat.le_of_ble_eq_true rfl) d_BT_told_113 ?_
      exact R_iret C rfl d_BT_told_116
    refine R_ite (fun e18 => ?_) (fun e18 => ?_)
    · refine R_tsw C e18 d_BT_told_35 (tgt := 117) (by decide +kernel) (by decide +kernel) rfl (by decide) ?_
      refine R_aload_n C 0 d_BT_told_117 rfl rfl ?_
      refine gf_BT_now C fl_BT_52 d_BT_told_118 ?_
      refine R_bind (fun v5 h6 => ?_)
      refine R_callV C (se_0 s40) (sc_0 s40 q _ _) rfl cf_Seat_knowsOfAll rfl ml_BT_179 im_Seat_knowsOfAll sl_Seat_Seat_knowsOfAll_Seat_knowsOfAll (c_Seat_knowsOfAll (gk C) s40 h6) (by decide) (by decide) rfl rfl (Nat.le_of_ble_eq_true rfl) d_BT_told_121 ?_
      exact R_iret C rfl d_BT_told_124
    refine R_ite (fun e19 => ?_) (fun e19 => ?_)
    · refine R_tsw C e19 d_BT_told_35 (tgt := 125) (by decide +kernel) (by decide +kernel) rfl (by decide) ?_
      refine R_aload_n C 0 d_BT_told_125 rfl rfl ?_
      refine gf_BT_now C fl_BT_52 d_BT_told_126 ?_
      refine R_aload_n C 0 d_BT_told_129 rfl rfl ?_
      refine gf_BT_now C fl_BT_52 d_BT_told_130 ?_
      refine R_iconst C d_BT_told_133 (v := 0) (by decide +kernel) ?_
      refine R_bind (fun v7 h8 => ?_)
      refine R_callV C (se_0 s40) (sc_0 s40 q _ _) rfl cf_Seat_noise rfl ml_BT_124 im_Seat_noise sl_Seat_Seat_noise_Seat_noise (c_Seat_noise (gk C) s40 h8) (by decide) (by decide) rfl rfl (Nat.le_of_ble_eq_true rfl) d_BT_told_134 ?_
      refine R_bind (fun v9 h10 => ?_)
      refine R_callV C (se_0 s40) (sc_0 s40 q _ _) rfl cf_Seat_learnsOfAll rfl ml_BT_182 im_Seat_learnsOfAll sl_Seat_Seat_learnsOfAll_Seat_learnsOfAll (c_Seat_learnsOfAll (gk C) s40 h10) (by decide) (by decide) rfl rfl (Nat.le_of_ble_eq_true rfl) d_BT_told_137 ?_
      exact R_iret C rfl d_BT_told_140
    refine R_tswd C d_BT_told_35 (tgt := 141) (sw_out (L := [0, 1, 2, 3, 4, 5, 6]) (n := 7) (by decide +kernel) (by decide +kernel) (List.forall_mem_cons.mpr ⟨e13, List.forall_mem_cons.mpr ⟨e14, List.forall_mem_cons.mpr ⟨e15, List.forall_mem_cons.mpr ⟨e16, List.forall_mem_cons.mpr ⟨e17, List.forall_mem_cons.mpr ⟨e18, List.forall_mem_cons.mpr ⟨e19, fun _ h => absurd h List.not_mem_nil⟩⟩⟩⟩⟩⟩⟩)) (by decide) ?_
    refine R_iconst C d_BT_told_141 (v := (-1)) (by decide +kernel) ?_
    exact R_iret C rfl d_BT_told_142
  · skip
    refine R_aload_n C 0 d_BT_told_11 rfl rfl ?_
    refine gf_BT_now C fl_BT_52 d_BT_told_12 ?_
    refine R_iload_n C 1 d_BT_told_15 rfl rfl ?_
    refine R_bipush C d_BT_told_16 (v := 10) (by decide +kernel) ?_
    refine R_isub C d_BT_told_18 ?_
    refine R_bind (fun v11 h12 => ?_)
    refine R_callV C (se_0 s40) (sc_0 s40 q _ _) rfl cf_Seat_whoHas rfl ml_BT_170 im_Seat_whoHas sl_Seat_Seat_whoHas_Seat_whoHas (c_Seat_whoHas (gk C) s40 h12) (by decide) (by decide) rfl rfl (Nat.le_of_ble_eq_true rfl) d_BT_told_19 ?_
    refine R_istore_n C (lv' := [(2, .int v11), (0, .ref (q.2.2.1 0)), (1, .int a1)]) d_BT_told_22 rfl (by decide) rfl ?_
    refine R_iload_n C 0 d_BT_told_23 rfl rfl ?_
    refine R_if_ge C d_BT_told_24 (tgt := 32) (by decide) ?_ ?_
    · skip
      refine R_iload_n C 0 d_BT_told_32 rfl rfl ?_
      exact R_iret C rfl d_BT_told_33
    · skip
      refine R_bipush C d_BT_told_27 (v := (-5)) (by decide +kernel) ?_
      refine R_goto C d_BT_told_29 (tgt := 33) (by decide) ?_
      exact R_iret C rfl d_BT_told_33
theorem c_BT_told {q : QT} (hg : GOk sdX q) {a1 : Int32} {μ : Mm} {ν : Ml} {o : Int32} (ho : F_BT_told a1 μ = some o) : Ct sdX q y_BT_told prog_1_method_10_code 3 (some (FieldType.int)) 6 [.ref (q.2.2.1 0), .int a1] μ ν ((φI μ ν) o).1 ((φI μ ν) o).2.1 ((φI μ ν) o).2.2 := Ct_of rfl hg (fun z C => w_BT_told C) (Nat.le_of_ble_eq_true rfl) ho
def L_Seat_weekGoes_8 (f4 : Nat) (f5 : Int32) (f6 : Int32) (k : Mm → Option (Mm)) : Nat → Int32 → Mm → Option (Mm)
  | 0, _, _ => none
  | n + 1, s3, μ7 => (if (μ7 f4 1) ≤ s3 then k μ7 else (rdI (μ7 (f4 + 4)) 6 s3).bind fun v8 => (F_Seat_learns f4 s3 f6 μ7).bind fun v9 => lt_ (if f5 > (v8 + v9) then (v8 + v9) else f5) fun x11 => (wrI μ7 (f4 + 4) 6 s3 x11).bind fun μ12 => L_Seat_weekGoes_8 f4 f5 f6 k n (s3 + 1) μ12)
def F_Seat_weekGoes (this : Nat) (a1 : Int32) (μ : Mm) : Option (Mm) := (F_Seat_noise this 0 μ).bind fun v1 => L_Seat_weekGoes_8 this a1 v1 (fun (μ13 : Mm) => lt_ (if 99 > ((μ13 this 3) + 1) then ((μ13 this 3) + 1) else 99) fun x14 => lt_ (up2 μ13 this 3 x14) fun μ15 => lt_ (up2 μ15 this 2 ((μ15 this 2) + 1)) fun μ16 => some μ16) fu 0 μ
theorem d_Seat_weekGoes_0 : decode prog_7_method_19_code 0 = .ok (.aload_n 0, 1) := by decide +kernel
theorem d_Seat_weekGoes_1 : decode prog_7_method_19_code 1 = .ok (.iconst 0, 1) := by decide +kernel
theorem d_Seat_weekGoes_2 : decode prog_7_method_19_code 2 = .ok (.invokevirtual 148, 3) := by decide +kernel
theorem d_Seat_weekGoes_5 : decode prog_7_method_19_code 5 = .ok (.istore_n 2, 1) := by decide +kernel
theorem d_Seat_weekGoes_6 : decode prog_7_method_19_code 6 = .ok (.iconst 0, 1) := by decide +kernel
theorem d_Seat_weekGoes_7 : decode prog_7_method_19_code 7 = .ok (.istore_n 3, 1) := by decide +kernel
theorem d_Seat_weekGoes_8 : decode prog_7_method_19_code 8 = .ok (.iload_n 3, 1) := by decide +kernel
theorem d_Seat_weekGoes_9 : decode prog_7_method_19_code 9 = .ok (.aload_n 0, 1) := by decide +kernel
theorem d_Seat_weekGoes_16 : decode prog_7_method_19_code 16 = .ok (.aload_n 0, 1) := by decide +kernel
theorem d_Seat_weekGoes_20 : decode prog_7_method_19_code 20 = .ok (.iload_n 3, 1) := by decide +kernel
theorem d_Seat_weekGoes_21 : decode prog_7_method_19_code 21 = .ok (.iload_n 1, 1) := by decide +kernel
theorem d_Seat_weekGoes_22 : decode prog_7_method_19_code 22 = .ok (.aload_n 0, 1) := by decide +kernel
theorem d_Seat_weekGoes_26 : decode prog_7_method_19_code 26 = .ok (.iload_n 3, 1) := by decide +kernel
theorem d_Seat_weekGoes_28 : decode prog_7_method_19_code 28 = .ok (.aload_n 0, 1) := by decide +kernel
theorem d_Seat_weekGoes_29 : decode prog_7_method_19_code 29 = .ok (.iload_n 3, 1) := by decide +kernel
theorem d_Seat_weekGoes_30 : decode prog_7_method_19_code 30 = .ok (.iload_n 2, 1) := by decide +kernel
theorem d_Seat_weekGoes_31 : decode prog_7_method_19_code 31 = .ok (.invokevirtual 145, 3) := by decide +kernel
theorem d_Seat_weekGoes_34 : decode prog_7_method_19_code 34 = .ok (.iadd, 1) := by decide +kernel
theorem d_Seat_weekGoes_35 : decode prog_7_method_19_code 35 = .ok (.invokestatic 133, 3) := by decide +kernel
theorem d_Seat_weekGoes_39 : decode prog_7_method_19_code 39 = .ok (.iinc 3 1, 3) := by decide +kernel
theorem d_Seat_weekGoes_42 : decode prog_7_method_19_code 42 = .ok (.goto (-34), 3) := by decide +kernel
theorem d_Seat_weekGoes_38 : decode prog_7_method_19_code 38 = .ok (.iastore, 1) := by decide +kernel
theorem d_Seat_weekGoes_23 : decode prog_7_method_19_code 23 = .ok (.getfield 31, 3) := by decide +kernel
theorem d_Seat_weekGoes_17 : decode prog_7_method_19_code 17 = .ok (.getfield 31, 3) := by decide +kernel
theorem d_Seat_weekGoes_13 : decode prog_7_method_19_code 13 = .ok (.if_icmp .ge 32, 3) := by decide +kernel
theorem d_Seat_weekGoes_10 : decode prog_7_method_19_code 10 = .ok (.getfield 59, 3) := by decide +kernel
theorem d_Seat_weekGoes_27 : decode prog_7_method_19_code 27 = .ok (.iaload, 1) := by decide +kernel
set_option maxRecDepth 10000 in
set_option maxHeartbeats 4000000 in
theorem W_Seat_weekGoes_8 {q : QT} {z : ZT} {ν : Ml} {f4 : Nat} {f5 : Int32} {f6 : Int32} {k : Mm → Option (Mm)} (C : Ctx sdX q z prog_7_method_19_code "BesideTom$Seating" 4 6 none) (h_f4 : f4 ∈ seats) (hk : ∀ (me_ : Mm), R sdX q z 4 (φVm ν) (k me_) me_ ν 45 [(0, .ref (q.2.2.1 f4))] []) : ∀ (n : Nat) (s3 : Int32) (μ7 : Mm), R sdX q z 4 (φVm ν) (L_Seat_weekGoes_8 f4 f5 f6 k n s3 μ7) μ7 ν 8 [(3, .int s3), (0, .ref (q.2.2.1 f4)), (1, .int f5), (2, .int f6)] [] := by
  intro n
  induction n with
  | zero =>
    intros
    exact R_none
  | succ n ih =>
    intro s3 μ7
    rw [L_Seat_weekGoes_8]
    refine R_iload_n C 0 d_Seat_weekGoes_8 rfl rfl ?_
    refine R_aload_n C 1 d_Seat_weekGoes_9 rfl rfl ?_
    refine gf_Seat_many C h_f4 fl_Seat_59 d_Seat_weekGoes_10 ?_
    refine R_icmp_ge C d_Seat_weekGoes_13 (tgt := 45) (by decide) ?_ ?_
    · skip
      exact R_sub [1] rfl (hk μ7)
    · skip
      refine R_aload_n C 1 d_Seat_weekGoes_16 rfl rfl ?_
      refine gf_Seat_knows C h_f4 fl_Seat_31 d_Seat_weekGoes_17 ?_
      refine R_iload_n C 0 d_Seat_weekGoes_20 rfl rfl ?_
      refine R_iload_n C 2 d_Seat_weekGoes_21 rfl rfl ?_
      refine R_aload_n C 1 d_Seat_weekGoes_22 rfl rfl ?_
      refine gf_Seat_knows C h_f4 fl_Seat_31 d_Seat_weekGoes_23 ?_
      refine R_iload_n C 0 d_Seat_weekGoes_26 rfl rfl ?_
      refine R_iald C (se_4 h_f4) (sc_4 h_f4 q _ _) d_Seat_weekGoes_27 (fun v8 => ?_)
      refine R_aload_n C 1 d_Seat_weekGoes_28 rfl rfl ?_
      refine R_iload_n C 0 d_Seat_weekGoes_29 rfl rfl ?_
      refine R_iload_n C 3 d_Seat_weekGoes_30 rfl rfl ?_
      refine R_bind (fun v9 h10 => ?_)
      refine R_callV C (se_0 h_f4) (sc_0 h_f4 q _ _) rfl cf_Seat_learns rfl ml_Seat_145 im_Seat_learns sl_Seat_Seat_learns_Seat_learns (c_Seat_learns (gk C) h_f4 h10) (by decide) (by decide) rfl rfl (Nat.le_of_ble_eq_true rfl) d_Seat_weekGoes_31 ?_
      refine R_iadd C d_Seat_weekGoes_34 ?_
      refine R_min C ml_Seat_133 sm_Math_min in_Math co_Math_min (by decide) (Nat.le_of_ble_eq_true rfl) d_Seat_weekGoes_35 ?_
      refine R_nm (fun x11 => ?_)
      refine R_iast C (se_4 h_f4) (fun h => sc_4 h_f4 q h _) d_Seat_weekGoes_38 (fun μ12 => ?_)
      refine R_iinc C 0 d_Seat_weekGoes_39 rfl (iinc_v _ (v := 1) (by decide +kernel)) (lv' := [(3, .int (s3 + 1)), (0, .ref (q.2.2.1 f4)), (1, .int f5), (2, .int f6)]) (by decide) rfl ?_
      refine R_goto C d_Seat_weekGoes_42 (tgt := 8) (by decide) ?_
      exact R_sub [0, 1, 2, 3] rfl (ih (s3 + 1) μ12)
theorem d_Seat_weekGoes_45 : decode prog_7_method_19_code 45 = .ok (.aload_n 0, 1) := by decide +kernel
theorem d_Seat_weekGoes_46 : decode prog_7_method_19_code 46 = .ok (.bipush 99, 2) := by decide +kernel
theorem d_Seat_weekGoes_48 : decode prog_7_method_19_code 48 = .ok (.aload_n 0, 1) := by decide +kernel
theorem d_Seat_weekGoes_52 : decode prog_7_method_19_code 52 = .ok (.iconst 1, 1) := by decide +kernel
theorem d_Seat_weekGoes_53 : decode prog_7_method_19_code 53 = .ok (.iadd, 1) := by decide +kernel
theorem d_Seat_weekGoes_54 : decode prog_7_method_19_code 54 = .ok (.invokestatic 133, 3) := by decide +kernel
theorem d_Seat_weekGoes_60 : decode prog_7_method_19_code 60 = .ok (.aload_n 0, 1) := by decide +kernel
theorem d_Seat_weekGoes_61 : decode prog_7_method_19_code 61 = .ok (.dup, 1) := by decide +kernel
theorem d_Seat_weekGoes_65 : decode prog_7_method_19_code 65 = .ok (.iconst 1, 1) := by decide +kernel
theorem d_Seat_weekGoes_66 : decode prog_7_method_19_code 66 = .ok (.iadd, 1) := by decide +kernel
theorem d_Seat_weekGoes_70 : decode prog_7_method_19_code 70 = .ok (.return_, 1) := by decide +kernel
theorem d_Seat_weekGoes_62 : decode prog_7_method_19_code 62 = .ok (.getfield 62, 3) := by decide +kernel
theorem d_Seat_weekGoes_49 : decode prog_7_method_19_code 49 = .ok (.getfield 65, 3) := by decide +kernel
theorem d_Seat_weekGoes_57 : decode prog_7_method_19_code 57 = .ok (.putfield 65, 3) := by decide +kernel
theorem d_Seat_weekGoes_67 : decode prog_7_method_19_code 67 = .ok (.putfield 62, 3) := by decide +kernel
set_option maxRecDepth 10000 in
set_option maxHeartbeats 4000000 in
theorem w_Seat_weekGoes {q : QT} {z : ZT} {this : Nat} {a1 : Int32} {μ : Mm} {ν : Ml} (C : Ctx sdX q z prog_7_method_19_code "BesideTom$Seating" 4 6 none) (h_this : this ∈ seats) : R sdX q z 4 (φVm ν) (F_Seat_weekGoes this a1 μ) μ ν 0 [(0, .ref (q.2.2.1 this)), (1, .int a1)] [] := by
  unfold F_Seat_weekGoes
  refine R_aload_n C 0 d_Seat_weekGoes_0 rfl rfl ?_
  refine R_iconst C d_Seat_weekGoes_1 (v := 0) (by decide +kernel) ?_
  refine R_bind (fun v1 h2 => ?_)
  refine R_callV C (se_0 h_this) (sc_0 h_this q _ _) rfl cf_Seat_noise rfl ml_Seat_148 im_Seat_noise sl_Seat_Seat_noise_Seat_noise (c_Seat_noise (gk C) h_this h2) (by decide) (by decide) rfl rfl (Nat.le_of_ble_eq_true rfl) d_Seat_weekGoes_2 ?_
  refine R_istore_n C (lv' := [(2, .int v1), (0, .ref (q.2.2.1 this)), (1, .int a1)]) d_Seat_weekGoes_5 rfl (by decide) rfl ?_
  refine R_iconst C d_Seat_weekGoes_6 (v := 0) (by decide +kernel) ?_
  refine R_istore_n C (lv' := [(3, .int 0), (2, .int v1), (0, .ref (q.2.2.1 this)), (1, .int a1)]) d_Seat_weekGoes_7 rfl (by decide) rfl ?_
  refine R_sub [0, 2, 3, 1] rfl ?_
  refine W_Seat_weekGoes_8 C h_this ?_ fu _ _
  intro μ13
  refine R_aload_n C 0 d_Seat_weekGoes_45 rfl rfl ?_
  refine R_bipush C d_Seat_weekGoes_46 (v := 99) (by decide +kernel) ?_
  refine R_aload_n C 0 d_Seat_weekGoes_48 rfl rfl ?_
  refine gf_Seat_wear C h_this fl_Seat_65 d_Seat_weekGoes_49 ?_
  refine R_iconst C d_Seat_weekGoes_52 (v := 1) (by decide +kernel) ?_
  refine R_iadd C d_Seat_weekGoes_53 ?_
  refine R_min C ml_Seat_133 sm_Math_min in_Math co_Math_min (by decide) (Nat.le_of_ble_eq_true rfl) d_Seat_weekGoes_54 ?_
  refine R_nm (fun x14 => ?_)
  refine pf_Seat_wear C h_this fl_Seat_65 d_Seat_weekGoes_57 (fun μ15 => ?_)
  refine R_aload_n C 0 d_Seat_weekGoes_60 rfl rfl ?_
  refine R_dup C d_Seat_weekGoes_61 rfl ?_
  refine gf_Seat_week C h_this fl_Seat_62 d_Seat_weekGoes_62 ?_
  refine R_iconst C d_Seat_weekGoes_65 (v := 1) (by decide +kernel) ?_
  refine R_iadd C d_Seat_weekGoes_66 ?_
  refine pf_Seat_week C h_this fl_Seat_62 d_Seat_weekGoes_67 (fun μ16 => ?_)
  exact R_vret C rfl d_Seat_weekGoes_70
theorem c_Seat_weekGoes {q : QT} (hg : GOk sdX q) {this : Nat} {a1 : Int32} {μ : Mm} {ν : Ml} (h_this : this ∈ seats) {o : Mm} (ho : F_Seat_weekGoes this a1 μ = some o) : Ct sdX q y_Seat_weekGoes prog_7_method_19_code 4 none 6 [.ref (q.2.2.1 this), .int a1] μ ν ((φVm ν) o).1 ((φVm ν) o).2.1 ((φVm ν) o).2.2 := Ct_of rfl hg (fun z C => w_Seat_weekGoes C h_this) (Nat.le_of_ble_eq_true rfl) ho
def L_BT_worst_8 (k : Int32 → Mm → Option (Int32 × Mm)) : Nat → Int32 → Int32 → Int32 → Mm → Option (Int32 × Mm)
  | 0, _, _, _, _ => none
  | n + 1, s1, s2, s3, μ4 => (if (μ4 40 1) ≤ s3 then k s2 μ4 else (F_BT_without s3 μ4).bind fun μ5 => (F_Seat_noise 60 0 μ5).bind fun v7 => jn (α := Int32 × Int32) (fun K11 => (if s1 ≤ v7 then K11 (s1, s2) else K11 (v7, s3))) (fun (p_ : Int32 × Int32) => match p_ with | (j9, j10) => L_BT_worst_8 k n j9 j10 (s3 + 1) μ5))
def F_BT_worst (μ : Mm) : Option (Int32 × Mm) := L_BT_worst_8 (fun (x12 : Int32) (μ13 : Mm) => some (x12, μ13)) fu (1000000000) (-5) 0 μ
theorem d_BT_worst_0 : decode prog_1_method_22_code 0 = .ok (.ldc 196, 2) := by decide +kernel
theorem d_BT_worst_2 : decode prog_1_method_22_code 2 = .ok (.istore_n 1, 1) := by decide +kernel
theorem d_BT_worst_3 : decode prog_1_method_22_code 3 = .ok (.bipush (-5), 2) := by decide +kernel
theorem d_BT_worst_5 : decode prog_1_method_22_code 5 = .ok (.istore_n 2, 1) := by decide +kernel
theorem d_BT_worst_6 : decode prog_1_method_22_code 6 = .ok (.iconst 0, 1) := by decide +kernel
theorem d_BT_worst_7 : decode prog_1_method_22_code 7 = .ok (.istore_n 3, 1) := by decide +kernel
theorem d_BT_worst_8 : decode prog_1_method_22_code 8 = .ok (.iload_n 3, 1) := by decide +kernel
theorem d_BT_worst_9 : decode prog_1_method_22_code 9 = .ok (.aload_n 0, 1) := by decide +kernel
theorem d_BT_worst_19 : decode prog_1_method_22_code 19 = .ok (.aload_n 0, 1) := by decide +kernel
theorem d_BT_worst_20 : decode prog_1_method_22_code 20 = .ok (.iload_n 3, 1) := by decide +kernel
theorem d_BT_worst_21 : decode prog_1_method_22_code 21 = .ok (.invokevirtual 233, 3) := by decide +kernel
theorem d_BT_worst_24 : decode prog_1_method_22_code 24 = .ok (.aload_n 0, 1) := by decide +kernel
theorem d_BT_worst_28 : decode prog_1_method_22_code 28 = .ok (.iconst 0, 1) := by decide +kernel
theorem d_BT_worst_29 : decode prog_1_method_22_code 29 = .ok (.invokevirtual 124, 3) := by decide +kernel
theorem d_BT_worst_32 : decode prog_1_method_22_code 32 = .ok (.istore 4, 2) := by decide +kernel
theorem d_BT_worst_34 : decode prog_1_method_22_code 34 = .ok (.iload 4, 2) := by decide +kernel
theorem d_BT_worst_36 : decode prog_1_method_22_code 36 = .ok (.iload_n 1, 1) := by decide +kernel
theorem d_BT_worst_40 : decode prog_1_method_22_code 40 = .ok (.iload 4, 2) := by decide +kernel
theorem d_BT_worst_42 : decode prog_1_method_22_code 42 = .ok (.istore_n 1, 1) := by decide +kernel
theorem d_BT_worst_43 : decode prog_1_method_22_code 43 = .ok (.iload_n 3, 1) := by decide +kernel
theorem d_BT_worst_44 : decode prog_1_method_22_code 44 = .ok (.istore_n 2, 1) := by decide +kernel
theorem d_BT_worst_37 : decode prog_1_method_22_code 37 = .ok (.if_icmp .ge 8, 3) := by decide +kernel
theorem d_BT_worst_45 : decode prog_1_method_22_code 45 = .ok (.iinc 3 1, 3) := by decide +kernel
theorem d_BT_worst_48 : decode prog_1_method_22_code 48 = .ok (.goto (-40), 3) := by decide +kernel
theorem d_BT_worst_25 : decode prog_1_method_22_code 25 = .ok (.getfield 56, 3) := by decide +kernel
theorem d_BT_worst_16 : decode prog_1_method_22_code 16 = .ok (.if_icmp .ge 35, 3) := by decide +kernel
theorem d_BT_worst_13 : decode prog_1_method_22_code 13 = .ok (.getfield 80, 3) := by decide +kernel
theorem d_BT_worst_10 : decode prog_1_method_22_code 10 = .ok (.getfield 52, 3) := by decide +kernel
set_option maxRecDepth 10000 in
set_option maxHeartbeats 4000000 in
theorem W_BT_worst_8 {q : QT} {z : ZT} {ν : Ml} {k : Int32 → Mm → Option (Int32 × Mm)} (C : Ctx sdX q z prog_1_method_22_code "BesideTom" 5 6 (some (FieldType.int))) (hk : ∀ (e0_ : Int32) (me_ : Mm), R sdX q z 5 (φIm ν) (k e0_ me_) me_ ν 51 [(2, .int e0_)] []) : ∀ (n : Nat) (s1 : Int32) (s2 : Int32) (s3 : Int32) (μ4 : Mm), R sdX q z 5 (φIm ν) (L_BT_worst_8 k n s1 s2 s3 μ4) μ4 ν 8 [(1, .int s1), (2, .int s2), (3, .int s3), (0, .ref (q.2.2.1 0))] [] := by
  intro n
  induction n with
  | zero =>
    intros
    exact R_none
  | succ n ih =>
    intro s1 s2 s3 μ4
    rw [L_BT_worst_8]
    refine R_iload_n C 2 d_BT_worst_8 rfl rfl ?_
    refine R_aload_n C 3 d_BT_worst_9 rfl rfl ?_
    refine gf_BT_now C fl_BT_52 d_BT_worst_10 ?_
    refine gf_Seat_many C s40 fl_BT_80 d_BT_worst_13 ?_
    refine R_icmp_ge C d_BT_worst_16 (tgt := 51) (by decide) ?_ ?_
    · skip
      exact R_sub [1] rfl (hk s2 μ4)
    · skip
      refine R_aload_n C 3 d_BT_worst_19 rfl rfl ?_
      refine R_iload_n C 2 d_BT_worst_20 rfl rfl ?_
      refine R_bind (fun μ5 h6 => ?_)
      refine R_callV C xm_0 (xc_0 q _ _) rfl cf_BT_without rfl ml_BT_233 im_BT_without sl_BT_BT_without_BT_without (c_BT_without (gk C) h6) (by decide) (by decide) rfl rfl (Nat.le_of_ble_eq_true rfl) d_BT_worst_21 ?_
      refine R_aload_n C 3 d_BT_worst_24 rfl rfl ?_
      refine gf_BT_asked C fl_BT_56 d_BT_worst_25 ?_
      refine R_iconst C d_BT_worst_28 (v := 0) (by decide +kernel) ?_
      refine R_bind (fun v7 h8 => ?_)
      refine R_callV C (se_0 s60) (sc_0 s60 q _ _) rfl cf_Seat_noise rfl ml_BT_124 im_Seat_noise sl_Seat_Seat_noise_Seat_noise (c_Seat_noise (gk C) s60 h8) (by decide) (by decide) rfl rfl (Nat.le_of_ble_eq_true rfl) d_BT_worst_29 ?_
      refine R_istore C (lv' := [(4, .int v7), (1, .int s1), (2, .int s2), (3, .int s3), (0, .ref (q.2.2.1 0))]) d_BT_worst_32 (by decide) rfl ?_
      refine R_iload C 0 d_BT_worst_34 rfl ?_
      refine R_iload_n C 1 d_BT_worst_36 rfl rfl ?_
      refine R_jn (fun K11 => ∀ (j9 : Int32) (j10 : Int32), R sdX q z 5 (φIm ν) (K11 (j9, j10)) μ5 ν 45 [(0, .ref (q.2.2.1 0)), (1, .int j9), (2, .int j10), (3, .int s3)] []) ?_ (fun K11 hK11 => ?_)
      · intro j9 j10
        refine R_iinc C 3 d_BT_worst_45 rfl (iinc_v _ (v := 1) (by decide +kernel)) (lv' := [(3, .int (s3 + 1)), (0, .ref (q.2.2.1 0)), (1, .int j9), (2, .int j10)]) (by decide) rfl ?_
        refine R_goto C d_BT_worst_48 (tgt := 8) (by decide) ?_
        exact R_sub [2, 3, 0, 1] rfl (ih j9 j10 (s3 + 1) μ5)
      · skip
        refine R_icmp_ge C d_BT_worst_37 (tgt := 45) (by decide) ?_ ?_
        · skip
          exact R_sub [4, 1, 2, 3] rfl (hK11 s1 s2)
        · skip
          refine R_iload C 0 d_BT_worst_40 rfl ?_
          refine R_istore_n C (lv' := [(1, .int v7), (4, .int v7), (2, .int s2), (3, .int s3), (0, .ref (q.2.2.1 0))]) d_BT_worst_42 rfl (by decide) rfl ?_
          refine R_iload_n C 3 d_BT_worst_43 rfl rfl ?_
          refine R_istore_n C (lv' := [(2, .int s3), (1, .int v7), (4, .int v7), (3, .int s3), (0, .ref (q.2.2.1 0))]) d_BT_worst_44 rfl (by decide) rfl ?_
          exact R_sub [4, 1, 0, 3] rfl (hK11 v7 s3)
theorem d_BT_worst_51 : decode prog_1_method_22_code 51 = .ok (.iload_n 2, 1) := by decide +kernel
theorem d_BT_worst_52 : decode prog_1_method_22_code 52 = .ok (.ireturn, 1) := by decide +kernel
set_option maxRecDepth 10000 in
set_option maxHeartbeats 4000000 in
theorem w_BT_worst {q : QT} {z : ZT} {μ : Mm} {ν : Ml} (C : Ctx sdX q z prog_1_method_22_code "BesideTom" 5 6 (some (FieldType.int))) : R sdX q z 5 (φIm ν) (F_BT_worst μ) μ ν 0 [(0, .ref (q.2.2.1 0))] [] := by
  unfold F_BT_worst
  refine R_ldc C k_BT_196 d_BT_worst_0 ?_
  refine R_istore_n C (lv' := [(1, .int (1000000000)), (0, .ref (q.2.2.1 0))]) d_BT_worst_2 rfl (by decide) rfl ?_
  refine R_bipush C d_BT_worst_3 (v := (-5)) (by decide +kernel) ?_
  refine R_istore_n C (lv' := [(2, .int (-5)), (1, .int (1000000000)), (0, .ref (q.2.2.1 0))]) d_BT_worst_5 rfl (by decide) rfl ?_
  refine R_iconst C d_BT_worst_6 (v := 0) (by decide +kernel) ?_
  refine R_istore_n C (lv' := [(3, .int 0), (2, .int (-5)), (1, .int (1000000000)), (0, .ref (q.2.2.1 0))]) d_BT_worst_7 rfl (by decide) rfl ?_
  refine R_sub [2, 1, 0, 3] rfl ?_
  refine W_BT_worst_8 C ?_ fu _ _ _ _
  intro x12 μ13
  refine R_iload_n C 0 d_BT_worst_51 rfl rfl ?_
  exact R_iret C rfl d_BT_worst_52
theorem c_BT_worst {q : QT} (hg : GOk sdX q) {μ : Mm} {ν : Ml} {o : Int32 × Mm} (ho : F_BT_worst μ = some o) : Ct sdX q y_BT_worst prog_1_method_22_code 5 (some (FieldType.int)) 6 [.ref (q.2.2.1 0)] μ ν ((φIm ν) o).1 ((φIm ν) o).2.1 ((φIm ν) o).2.2 := Ct_of rfl hg (fun z C => w_BT_worst C) (Nat.le_of_ble_eq_true rfl) ho
def L_BT_arrange_74 (rec : Nat → Int32 → Int32 → Int32 → Int32 → Mm → Option (Int32 × Mm)) (f3 : Nat) (f4 : Int32) (f5 : Int32) (f6 : Int32) (k : Int32 → Mm → Option (Int32 × Mm)) : Nat → Int32 → Int32 → Mm → Option (Int32 × Mm)
  | 0, _, _, _ => none
  | n + 1, s1, s2, μ7 => (if 6 ≤ s2 then k s1 μ7 else (F_BT_bit f5 s2).bind fun v8 => jn (α := Int32 × Mm) (fun K16 => (if v8 = 0 then (wrI μ7 (f3 + 3) 6 f4 s2).bind fun μ10 => (rec f3 (f4 + 1) (f5 ||| (1 <<< (s2 &&& 31))) f6 s1 μ10).bind fun p_ => match p_ with | (v11, μ12) => K16 (v11, μ12) else K16 (s1, μ7))) (fun (p_ : Int32 × Mm) => match p_ with | (j14, μ15) => L_BT_arrange_74 rec f3 f4 f5 f6 k n j14 (s2 + 1) μ15))
def B_BT_arrange (rec : Nat → Int32 → Int32 → Int32 → Int32 → Mm → Option (Int32 × Mm))  (a0 : Nat) (a2 : Int32) (a3 : Int32) (a4 : Int32) (a5 : Int32) (μ : Mm) : Option (Int32 × Mm) := jn (α := Unit) (fun K29 => (if (μ a0 1) ≤ a2 then K29 () else (if a2 < 6 then L_BT_arrange_74 rec a0 a2 a3 a4 (fun (x17 : Int32) (μ18 : Mm) => some (x17, μ18)) fu a5 0 μ else K29 ()))) (fun (_ : Unit) => (F_Seat_noise a0 0 μ).bind fun v19 => jn (α := Int32) (fun K28 => (if a4 = 0 then K28 (-v19) else (F_Seat_learnsOfAll a0 v19 μ).bind fun v21 => K28 v21)) (fun (j23 : Int32) => jn (α := Mm) (fun K27 => (if j23 ≤ a5 then K27 μ else (cpI μ (a0 + 3) 6 0 13 6 0 6).bind fun μ24 => K27 μ24)) (fun (μ25 : Mm) => lt_ (if j23 < a5 then a5 else j23) fun x26 => some (x26, μ25))))
theorem d_BT_arrange_0 : decode prog_1_method_20_code 0 = .ok (.iload_n 2, 1) := by decide +kernel
theorem d_BT_arrange_1 : decode prog_1_method_20_code 1 = .ok (.aload_n 0, 1) := by decide +kernel
theorem d_BT_arrange_8 : decode prog_1_method_20_code 8 = .ok (.iload_n 2, 1) := by decide +kernel
theorem d_BT_arrange_9 : decode prog_1_method_20_code 9 = .ok (.bipush 6, 2) := by decide +kernel
theorem d_BT_arrange_67 : decode prog_1_method_20_code 67 = .ok (.iload 5, 2) := by decide +kernel
theorem d_BT_arrange_69 : decode prog_1_method_20_code 69 = .ok (.istore 6, 2) := by decide +kernel
theorem d_BT_arrange_71 : decode prog_1_method_20_code 71 = .ok (.iconst 0, 1) := by decide +kernel
theorem d_BT_arrange_72 : decode prog_1_method_20_code 72 = .ok (.istore 7, 2) := by decide +kernel
theorem d_BT_arrange_74 : decode prog_1_method_20_code 74 = .ok (.iload 7, 2) := by decide +kernel
theorem d_BT_arrange_76 : decode prog_1_method_20_code 76 = .ok (.bipush 6, 2) := by decide +kernel
theorem d_BT_arrange_81 : decode prog_1_method_20_code 81 = .ok (.iload_n 3, 1) := by decide +kernel
theorem d_BT_arrange_82 : decode prog_1_method_20_code 82 = .ok (.iload 7, 2) := by decide +kernel
theorem d_BT_arrange_84 : decode prog_1_method_20_code 84 = .ok (.invokestatic 226, 3) := by decide +kernel
theorem d_BT_arrange_90 : decode prog_1_method_20_code 90 = .ok (.aload_n 0, 1) := by decide +kernel
theorem d_BT_arrange_94 : decode prog_1_method_20_code 94 = .ok (.iload_n 2, 1) := by decide +kernel
theorem d_BT_arrange_95 : decode prog_1_method_20_code 95 = .ok (.iload 7, 2) := by decide +kernel
theorem d_BT_arrange_98 : decode prog_1_method_20_code 98 = .ok (.aload_n 0, 1) := by decide +kernel
theorem d_BT_arrange_99 : decode prog_1_method_20_code 99 = .ok (.aload_n 1, 1) := by decide +kernel
theorem d_BT_arrange_100 : decode prog_1_method_20_code 100 = .ok (.iload_n 2, 1) := by decide +kernel
theorem d_BT_arrange_101 : decode prog_1_method_20_code 101 = .ok (.iconst 1, 1) := by decide +kernel
theorem d_BT_arrange_102 : decode prog_1_method_20_code 102 = .ok (.iadd, 1) := by decide +kernel
theorem d_BT_arrange_103 : decode prog_1_method_20_code 103 = .ok (.iload_n 3, 1) := by decide +kernel
theorem d_BT_arrange_104 : decode prog_1_method_20_code 104 = .ok (.iconst 1, 1) := by decide +kernel
theorem d_BT_arrange_105 : decode prog_1_method_20_code 105 = .ok (.iload 7, 2) := by decide +kernel
theorem d_BT_arrange_107 : decode prog_1_method_20_code 107 = .ok (.ishl, 1) := by decide +kernel
theorem d_BT_arrange_108 : decode prog_1_method_20_code 108 = .ok (.ior, 1) := by decide +kernel
theorem d_BT_arrange_109 : decode prog_1_method_20_code 109 = .ok (.iload 4, 2) := by decide +kernel
theorem d_BT_arrange_111 : decode prog_1_method_20_code 111 = .ok (.iload 6, 2) := by decide +kernel
theorem d_BT_arrange_113 : decode prog_1_method_20_code 113 = .ok (.invokestatic 201, 3) := by decide +kernel
theorem d_BT_arrange_116 : decode prog_1_method_20_code 116 = .ok (.istore 6, 2) := by decide +kernel
theorem d_BT_arrange_97 : decode prog_1_method_20_code 97 = .ok (.iastore, 1) := by decide +kernel
theorem d_BT_arrange_91 : decode prog_1_method_20_code 91 = .ok (.getfield 105, 3) := by decide +kernel
theorem d_BT_arrange_87 : decode prog_1_method_20_code 87 = .ok (.ifCond .ne 31, 3) := by decide +kernel
theorem d_BT_arrange_118 : decode prog_1_method_20_code 118 = .ok (.iinc 7 1, 3) := by decide +kernel
theorem d_BT_arrange_121 : decode prog_1_method_20_code 121 = .ok (.goto (-47), 3) := by decide +kernel
theorem d_BT_arrange_78 : decode prog_1_method_20_code 78 = .ok (.if_icmp .ge 46, 3) := by decide +kernel
set_option maxRecDepth 10000 in
set_option maxHeartbeats 4000000 in
theorem W_BT_arrange_74 {d : Nat} {q : QT} {z : ZT} {ν : Ml} {f3 : Nat} {f4 : Int32} {f5 : Int32} {f6 : Int32} {rec : Nat → Int32 → Int32 → Int32 → Int32 → Mm → Option (Int32 × Mm)} {k : Int32 → Mm → Option (Int32 × Mm)} (C : Ctx sdX q z prog_1_method_20_code "BesideTom" 8 (6 + 2 * (d + 1)) (some (FieldType.int))) (hrec : ∀ (a0 : Nat) (a2 : Int32) (a3 : Int32) (a4 : Int32) (a5 : Int32) (μ : Mm) (ν : Ml) (o : Int32 × Mm) (h_a0 : a0 ∈ seats), rec a0 a2 a3 a4 a5 μ = some o → Ct sdX q y_BT_arrange prog_1_method_20_code 8 (some (FieldType.int)) (6 + 2 * d) [.ref (q.2.2.1 a0), .ref (q.2.2.1 13), .int a2, .int a3, .int a4, .int a5] μ ν ((φIm ν) o).1 ((φIm ν) o).2.1 ((φIm ν) o).2.2) (h_f3 : f3 ∈ seats) (hk : ∀ (e0_ : Int32) (me_ : Mm), R sdX q z 8 (φIm ν) (k e0_ me_) me_ ν 124 [(6, .int e0_)] []) : ∀ (n : Nat) (s1 : Int32) (s2 : Int32) (μ7 : Mm), R sdX q z 8 (φIm ν) (L_BT_arrange_74 rec f3 f4 f5 f6 k n s1 s2 μ7) μ7 ν 74 [(6, .int s1), (7, .int s2), (0, .ref (q.2.2.1 f3)), (1, .ref (q.2.2.1 13)), (2, .int f4), (3, .int f5), (4, .int f6)] [] := by
  intro n
  induction n with
  | zero =>
    intros
    exact R_none
  | succ n ih =>
    intro s1 s2 μ7
    rw [L_BT_arrange_74]
    refine R_iload C 1 d_BT_arrange_74 rfl ?_
    refine R_bipush C d_BT_arrange_76 (v := 6) (by decide +kernel) ?_
    refine R_icmp_ge C d_BT_arrange_78 (tgt := 124) (by decide) ?_ ?_
    · skip
      exact R_sub [0] rfl (hk s1 μ7)
    · skip
      refine R_iload_n C 5 d_BT_arrange_81 rfl rfl ?_
      refine R_iload C 1 d_BT_arrange_82 rfl ?_
      refine R_bind (fun v8 h9 => ?_)
      refine R_callS C cf_BT_bit ml_BT_226 sm_BT_bit (c_BT_bit (gk C) h9) (by omega) (by decide) rfl rfl (Nat.le_of_ble_eq_true rfl) d_BT_arrange_84 ?_
      refine R_jn (fun K16 => ∀ (j14 : Int32) (μ15 : Mm), R sdX q z 8 (φIm ν) (K16 (j14, μ15)) μ15 ν 118 [(0, .ref (q.2.2.1 f3)), (1, .ref (q.2.2.1 13)), (2, .int f4), (3, .int f5), (4, .int f6), (6, .int j14), (7, .int s2)] []) ?_ (fun K16 hK16 => ?_)
      · intro j14 μ15
        refine R_iinc C 6 d_BT_arrange_118 rfl (iinc_v _ (v := 1) (by decide +kernel)) (lv' := [(7, .int (s2 + 1)), (0, .ref (q.2.2.1 f3)), (1, .ref (q.2.2.1 13)), (2, .int f4), (3, .int f5), (4, .int f6), (6, .int j14)]) (by decide) rfl ?_
        refine R_goto C d_BT_arrange_121 (tgt := 74) (by decide) ?_
        exact R_sub [6, 0, 1, 2, 3, 4, 5] rfl (ih j14 (s2 + 1) μ15)
      · skip
        refine R_if_ne C d_BT_arrange_87 (tgt := 118) (by decide) ?_ ?_
        · skip
          exact R_sub [2, 3, 4, 5, 6, 0, 1] rfl (hK16 s1 μ7)
        · skip
          refine R_aload_n C 2 d_BT_arrange_90 rfl rfl ?_
          refine gf_Seat_desk C h_f3 fl_BT_105 d_BT_arrange_91 ?_
          refine R_iload_n C 4 d_BT_arrange_94 rfl rfl ?_
          refine R_iload C 1 d_BT_arrange_95 rfl ?_
          refine R_iast C (se_3 h_f3) (fun h => sc_3 h_f3 q h _) d_BT_arrange_97 (fun μ10 => ?_)
          refine R_aload_n C 2 d_BT_arrange_98 rfl rfl ?_
          refine R_aload_n C 3 d_BT_arrange_99 rfl rfl ?_
          refine R_iload_n C 4 d_BT_arrange_100 rfl rfl ?_
          refine R_iconst C d_BT_arrange_101 (v := 1) (by decide +kernel) ?_
          refine R_iadd C d_BT_arrange_102 ?_
          refine R_iload_n C 5 d_BT_arrange_103 rfl rfl ?_
          refine R_iconst C d_BT_arrange_104 (v := 1) (by decide +kernel) ?_
          refine R_iload C 1 d_BT_arrange_105 rfl ?_
          refine R_ishl C d_BT_arrange_107 ?_
          refine R_ior C d_BT_arrange_108 ?_
          refine R_iload C 6 d_BT_arrange_109 rfl ?_
          refine R_iload C 0 d_BT_arrange_111 rfl ?_
          refine R_bind (fun r_ h13 => ?_)
          obtain ⟨v11, μ12⟩ := r_
          refine R_callS C cf_BT_arrange ml_BT_201 sm_BT_arrange (hrec _ _ _ _ _ _ _ _ h_f3 h13) (by omega) (by decide) rfl rfl (Nat.le_of_ble_eq_true rfl) d_BT_arrange_113 ?_
          refine R_istore C (lv' := [(6, .int v11), (7, .int s2), (0, .ref (q.2.2.1 f3)), (1, .ref (q.2.2.1 13)), (2, .int f4), (3, .int f5), (4, .int f6)]) d_BT_arrange_116 (by decide) rfl ?_
          exact R_sub [2, 3, 4, 5, 6, 0, 1] rfl (hK16 v11 μ12)
theorem d_BT_arrange_124 : decode prog_1_method_20_code 124 = .ok (.iload 6, 2) := by decide +kernel
theorem d_BT_arrange_126 : decode prog_1_method_20_code 126 = .ok (.ireturn, 1) := by decide +kernel
theorem d_BT_arrange_11 : decode prog_1_method_20_code 11 = .ok (.if_icmp .lt 56, 3) := by decide +kernel
theorem d_BT_arrange_5 : decode prog_1_method_20_code 5 = .ok (.if_icmp .ge 9, 3) := by decide +kernel
theorem d_BT_arrange_14 : decode prog_1_method_20_code 14 = .ok (.aload_n 0, 1) := by decide +kernel
theorem d_BT_arrange_15 : decode prog_1_method_20_code 15 = .ok (.iconst 0, 1) := by decide +kernel
theorem d_BT_arrange_16 : decode prog_1_method_20_code 16 = .ok (.invokevirtual 124, 3) := by decide +kernel
theorem d_BT_arrange_19 : decode prog_1_method_20_code 19 = .ok (.istore 6, 2) := by decide +kernel
theorem d_BT_arrange_21 : decode prog_1_method_20_code 21 = .ok (.iload 4, 2) := by decide +kernel
theorem d_BT_arrange_35 : decode prog_1_method_20_code 35 = .ok (.iload 6, 2) := by decide +kernel
theorem d_BT_arrange_37 : decode prog_1_method_20_code 37 = .ok (.ineg, 1) := by decide +kernel
theorem d_BT_arrange_26 : decode prog_1_method_20_code 26 = .ok (.aload_n 0, 1) := by decide +kernel
theorem d_BT_arrange_27 : decode prog_1_method_20_code 27 = .ok (.iload 6, 2) := by decide +kernel
theorem d_BT_arrange_29 : decode prog_1_method_20_code 29 = .ok (.invokevirtual 182, 3) := by decide +kernel
theorem d_BT_arrange_32 : decode prog_1_method_20_code 32 = .ok (.goto 6, 3) := by decide +kernel
theorem d_BT_arrange_23 : decode prog_1_method_20_code 23 = .ok (.ifCond .eq 12, 3) := by decide +kernel
theorem d_BT_arrange_38 : decode prog_1_method_20_code 38 = .ok (.istore 7, 2) := by decide +kernel
theorem d_BT_arrange_40 : decode prog_1_method_20_code 40 = .ok (.iload 7, 2) := by decide +kernel
theorem d_BT_arrange_42 : decode prog_1_method_20_code 42 = .ok (.iload 5, 2) := by decide +kernel
theorem d_BT_arrange_47 : decode prog_1_method_20_code 47 = .ok (.aload_n 0, 1) := by decide +kernel
theorem d_BT_arrange_51 : decode prog_1_method_20_code 51 = .ok (.iconst 0, 1) := by decide +kernel
theorem d_BT_arrange_52 : decode prog_1_method_20_code 52 = .ok (.aload_n 1, 1) := by decide +kernel
theorem d_BT_arrange_53 : decode prog_1_method_20_code 53 = .ok (.iconst 0, 1) := by decide +kernel
theorem d_BT_arrange_54 : decode prog_1_method_20_code 54 = .ok (.bipush 6, 2) := by decide +kernel
theorem d_BT_arrange_56 : decode prog_1_method_20_code 56 = .ok (.invokestatic 215, 3) := by decide +kernel
theorem d_BT_arrange_48 : decode prog_1_method_20_code 48 = .ok (.getfield 105, 3) := by decide +kernel
theorem d_BT_arrange_44 : decode prog_1_method_20_code 44 = .ok (.if_icmp .le 15, 3) := by decide +kernel
theorem d_BT_arrange_59 : decode prog_1_method_20_code 59 = .ok (.iload 7, 2) := by decide +kernel
theorem d_BT_arrange_61 : decode prog_1_method_20_code 61 = .ok (.iload 5, 2) := by decide +kernel
theorem d_BT_arrange_63 : decode prog_1_method_20_code 63 = .ok (.invokestatic 221, 3) := by decide +kernel
theorem d_BT_arrange_66 : decode prog_1_method_20_code 66 = .ok (.ireturn, 1) := by decide +kernel
theorem d_BT_arrange_2 : decode prog_1_method_20_code 2 = .ok (.getfield 80, 3) := by decide +kernel
set_option maxRecDepth 10000 in
set_option maxHeartbeats 4000000 in
theorem w_BT_arrange {d : Nat} {q : QT} {z : ZT} {rec : Nat → Int32 → Int32 → Int32 → Int32 → Mm → Option (Int32 × Mm)} {a0 : Nat} {a2 : Int32} {a3 : Int32} {a4 : Int32} {a5 : Int32} {μ : Mm} {ν : Ml} (C : Ctx sdX q z prog_1_method_20_code "BesideTom" 8 (6 + 2 * (d + 1)) (some (FieldType.int))) (hrec : ∀ (a0 : Nat) (a2 : Int32) (a3 : Int32) (a4 : Int32) (a5 : Int32) (μ : Mm) (ν : Ml) (o : Int32 × Mm) (h_a0 : a0 ∈ seats), rec a0 a2 a3 a4 a5 μ = some o → Ct sdX q y_BT_arrange prog_1_method_20_code 8 (some (FieldType.int)) (6 + 2 * d) [.ref (q.2.2.1 a0), .ref (q.2.2.1 13), .int a2, .int a3, .int a4, .int a5] μ ν ((φIm ν) o).1 ((φIm ν) o).2.1 ((φIm ν) o).2.2) (h_a0 : a0 ∈ seats) : R sdX q z 8 (φIm ν) (B_BT_arrange rec a0 a2 a3 a4 a5 μ) μ ν 0 [(0, .ref (q.2.2.1 a0)), (1, .ref (q.2.2.1 13)), (2, .int a2), (3, .int a3), (4, .int a4), (5, .int a5)] [] := by
  unfold B_BT_arrange
  refine R_iload_n C 2 d_BT_arrange_0 rfl rfl ?_
  refine R_aload_n C 0 d_BT_arrange_1 rfl rfl ?_
  refine gf_Seat_many C h_a0 fl_BT_80 d_BT_arrange_2 ?_
  refine R_jn (fun K29 => R sdX q z 8 (φIm ν) (K29 ()) μ ν 14 [(0, .ref (q.2.2.1 a0)), (1, .ref (q.2.2.1 13)), (4, .int a4), (5, .int a5)] []) ?_ (fun K29 hK29 => ?_)
  · skip
    refine R_aload_n C 0 d_BT_arrange_14 rfl rfl ?_
    refine R_iconst C d_BT_arrange_15 (v := 0) (by decide +kernel) ?_
    refine R_bind (fun v19 h20 => ?_)
    refine R_callV C (se_0 h_a0) (sc_0 h_a0 q _ _) rfl cf_Seat_noise rfl ml_BT_124 im_Seat_noise sl_Seat_Seat_noise_Seat_noise (c_Seat_noise (gk C) h_a0 h20) (by omega) (by decide) rfl rfl (Nat.le_of_ble_eq_true rfl) d_BT_arrange_16 ?_
    refine R_istore C (lv' := [(6, .int v19), (0, .ref (q.2.2.1 a0)), (1, .ref (q.2.2.1 13)), (4, .int a4), (5, .int a5)]) d_BT_arrange_19 (by decide) rfl ?_
    refine R_iload C 3 d_BT_arrange_21 rfl ?_
    refine R_jn (fun K28 => ∀ (j23 : Int32), R sdX q z 8 (φIm ν) (K28 j23) μ ν 38 [(0, .ref (q.2.2.1 a0)), (1, .ref (q.2.2.1 13)), (5, .int a5)] [.int j23]) ?_ (fun K28 hK28 => ?_)
    · intro j23
      refine R_istore C (lv' := [(7, .int j23), (0, .ref (q.2.2.1 a0)), (1, .ref (q.2.2.1 13)), (5, .int a5)]) d_BT_arrange_38 (by decide) rfl ?_
      refine R_iload C 0 d_BT_arrange_40 rfl ?_
      refine R_iload C 3 d_BT_arrange_42 rfl ?_
      refine R_jn (fun K27 => ∀ (μ25 : Mm), R sdX q z 8 (φIm ν) (K27 μ25) μ25 ν 59 [(5, .int a5), (7, .int j23)] []) ?_ (fun K27 hK27 => ?_)
      · intro μ25
        refine R_iload C 1 d_BT_arrange_59 rfl ?_
        refine R_iload C 0 d_BT_arrange_61 rfl ?_
        refine R_max C ml_BT_221 sm_Math_max in_Math co_Math_max (by omega) (Nat.le_of_ble_eq_true rfl) d_BT_arrange_63 ?_
        refine R_nm (fun x26 => ?_)
        exact R_iret C rfl d_BT_arrange_66
      · skip
        refine R_icmp_le C d_BT_arrange_44 (tgt := 59) (by decide) ?_ ?_
        · skip
          exact R_sub [3, 0] rfl (hK27 μ)
        · skip
          refine R_aload_n C 1 d_BT_arrange_47 rfl rfl ?_
          refine gf_Seat_desk C h_a0 fl_BT_105 d_BT_arrange_48 ?_
          refine R_iconst C d_BT_arrange_51 (v := 0) (by decide +kernel) ?_
          refine R_aload_n C 2 d_BT_arrange_52 rfl rfl ?_
          refine R_iconst C d_BT_arrange_53 (v := 0) (by decide +kernel) ?_
          refine R_bipush C d_BT_arrange_54 (v := 6) (by decide +kernel) ?_
          refine R_copyi C ml_BT_215 nt_Sys_arraycopy sm_Sys_arraycopy in_Sys (by omega) (Nat.le_of_ble_eq_true rfl) (se_3 h_a0) xm_13 (fun h => sc_3 h_a0 q h _) (fun h => xc_13 q h _) d_BT_arrange_56 (fun μ24 => ?_)
          exact R_sub [3, 0] rfl (hK27 μ24)
    · skip
      refine R_if_eq C d_BT_arrange_23 (tgt := 35) (by decide) ?_ ?_
      · skip
        refine R_iload C 0 d_BT_arrange_35 rfl ?_
        refine R_ineg C d_BT_arrange_37 ?_
        exact R_sub [1, 2, 4] rfl (hK28 (-v19))
      · skip
        refine R_aload_n C 1 d_BT_arrange_26 rfl rfl ?_
        refine R_iload C 0 d_BT_arrange_27 rfl ?_
        refine R_bind (fun v21 h22 => ?_)
        refine R_callV C (se_0 h_a0) (sc_0 h_a0 q _ _) rfl cf_Seat_learnsOfAll rfl ml_BT_182 im_Seat_learnsOfAll sl_Seat_Seat_learnsOfAll_Seat_learnsOfAll (c_Seat_learnsOfAll (gk C) h_a0 h22) (by omega) (by decide) rfl rfl (Nat.le_of_ble_eq_true rfl) d_BT_arrange_29 ?_
        refine R_goto C d_BT_arrange_32 (tgt := 38) (by decide) ?_
        exact R_sub [1, 2, 4] rfl (hK28 v21)
  · skip
    refine R_icmp_ge C d_BT_arrange_5 (tgt := 14) (by decide) ?_ ?_
    · skip
      exact R_sub [0, 1, 4, 5] rfl (hK29)
    · skip
      refine R_iload_n C 2 d_BT_arrange_8 rfl rfl ?_
      refine R_bipush C d_BT_arrange_9 (v := 6) (by decide +kernel) ?_
      refine R_icmp_lt C d_BT_arrange_11 (tgt := 67) (by decide) ?_ ?_
      · skip
        refine R_iload C 5 d_BT_arrange_67 rfl ?_
        refine R_istore C (lv' := [(6, .int a5), (0, .ref (q.2.2.1 a0)), (1, .ref (q.2.2.1 13)), (2, .int a2), (3, .int a3), (4, .int a4), (5, .int a5)]) d_BT_arrange_69 (by decide) rfl ?_
        refine R_iconst C d_BT_arrange_71 (v := 0) (by decide +kernel) ?_
        refine R_istore C (lv' := [(7, .int 0), (6, .int a5), (0, .ref (q.2.2.1 a0)), (1, .ref (q.2.2.1 13)), (2, .int a2), (3, .int a3), (4, .int a4), (5, .int a5)]) d_BT_arrange_72 (by decide) rfl ?_
        refine R_sub [1, 0, 2, 3, 4, 5, 6] rfl ?_
        refine W_BT_arrange_74 C hrec h_a0 ?_ fu _ _ _
        intro x17 μ18
        refine R_iload C 0 d_BT_arrange_124 rfl ?_
        exact R_iret C rfl d_BT_arrange_126
      · skip
        exact R_sub [0, 1, 4, 5] rfl (hK29)
def F_BT_arrange : Nat → Nat → Int32 → Int32 → Int32 → Int32 → Mm → Option (Int32 × Mm)
  | 0, _, _, _, _, _, _ => none
  | d + 1, a0, a2, a3, a4, a5, μ => B_BT_arrange (F_BT_arrange d) a0 a2 a3 a4 a5 μ
theorem c_BT_arrange {d : Nat} {q : QT} (hg : GOk sdX q) {a0 : Nat} {a2 : Int32} {a3 : Int32} {a4 : Int32} {a5 : Int32} {μ : Mm} {ν : Ml} (h_a0 : a0 ∈ seats) {o : Int32 × Mm} (ho : F_BT_arrange d a0 a2 a3 a4 a5 μ = some o) : Ct sdX q y_BT_arrange prog_1_method_20_code 8 (some (FieldType.int)) (6 + 2 * d) [.ref (q.2.2.1 a0), .ref (q.2.2.1 13), .int a2, .int a3, .int a4, .int a5] μ ν ((φIm ν) o).1 ((φIm ν) o).2.1 ((φIm ν) o).2.2 := by
  revert a0 a2 a3 a4 a5 μ ν h_a0 o
  induction d with
  | zero =>
    intros
    rename_i ho
    cases ho
  | succ d ih =>
    intro a0 a2 a3 a4 a5 μ ν h_a0 o ho
    exact Ct_of rfl hg (fun z C => w_BT_arrange (rec := F_BT_arrange d) C (fun a0 a2 a3 a4 a5 μ ν o h_a0 ho => ih h_a0 ho) h_a0) (Nat.le_of_ble_eq_true rfl) ho
def L_BT_calmsBy_34 (rec : Nat → Int32 → Int32 → Int32 → Mm → Option (Int32 × Mm)) (f7 : Nat) (f8 : Int32) (f9 : Int32) (f10 : Int32) (k : Mm → Option (Int32 × Mm)) : Nat → Int32 → Mm → Option (Int32 × Mm)
  | 0, _, _ => none
  | n + 1, s6, μ11 => (if f10 ≤ s6 then k μ11 else (F_Seat_swaps f7 s6 f10 μ11).bind fun μ12 => (rec f7 (f8 - 1) (f10 + 1) f9 μ12).bind fun p_ => match p_ with | (v14, μ15) => (F_Seat_swaps f7 s6 f10 μ15).bind fun μ17 => (if v14 = 0 then L_BT_calmsBy_34 rec f7 f8 f9 f10 k n (s6 + 1) μ17 else some (1, μ17)))
def L_BT_calmsBy_22 (rec : Nat → Int32 → Int32 → Int32 → Mm → Option (Int32 × Mm)) (f2 : Nat) (f3 : Int32) (f4 : Int32) (k : Mm → Option (Int32 × Mm)) : Nat → Int32 → Mm → Option (Int32 × Mm)
  | 0, _, _ => none
  | n + 1, s1, μ5 => (if (μ5 f2 1) ≤ s1 then k μ5 else L_BT_calmsBy_34 rec f2 f3 f4 s1 (fun (μ19 : Mm) => L_BT_calmsBy_22 rec f2 f3 f4 k n (s1 + 1) μ19) fu 0 μ5)
def B_BT_calmsBy (rec : Nat → Int32 → Int32 → Int32 → Mm → Option (Int32 × Mm))  (a0 : Nat) (a1 : Int32) (a2 : Int32) (a3 : Int32) (μ : Mm) : Option (Int32 × Mm) := (if 0 < a1 then L_BT_calmsBy_22 rec a0 a1 a3 (fun (μ20 : Mm) => some (0, μ20)) fu a2 μ else (F_Seat_noise a0 0 μ).bind fun v21 => (if a3 < v21 then some (0, μ) else some (1, μ)))
theorem d_BT_calmsBy_0 : decode prog_1_method_24_code 0 = .ok (.iload_n 1, 1) := by decide +kernel
theorem d_BT_calmsBy_19 : decode prog_1_method_24_code 19 = .ok (.iload_n 2, 1) := by decide +kernel
theorem d_BT_calmsBy_20 : decode prog_1_method_24_code 20 = .ok (.istore 4, 2) := by decide +kernel
theorem d_BT_calmsBy_22 : decode prog_1_method_24_code 22 = .ok (.iload 4, 2) := by decide +kernel
theorem d_BT_calmsBy_24 : decode prog_1_method_24_code 24 = .ok (.aload_n 0, 1) := by decide +kernel
theorem d_BT_calmsBy_31 : decode prog_1_method_24_code 31 = .ok (.iconst 0, 1) := by decide +kernel
theorem d_BT_calmsBy_32 : decode prog_1_method_24_code 32 = .ok (.istore 5, 2) := by decide +kernel
theorem d_BT_calmsBy_34 : decode prog_1_method_24_code 34 = .ok (.iload 5, 2) := by decide +kernel
theorem d_BT_calmsBy_36 : decode prog_1_method_24_code 36 = .ok (.iload 4, 2) := by decide +kernel
theorem d_BT_calmsBy_41 : decode prog_1_method_24_code 41 = .ok (.aload_n 0, 1) := by decide +kernel
theorem d_BT_calmsBy_42 : decode prog_1_method_24_code 42 = .ok (.iload 5, 2) := by decide +kernel
theorem d_BT_calmsBy_44 : decode prog_1_method_24_code 44 = .ok (.iload 4, 2) := by decide +kernel
theorem d_BT_calmsBy_46 : decode prog_1_method_24_code 46 = .ok (.invokevirtual 230, 3) := by decide +kernel
theorem d_BT_calmsBy_49 : decode prog_1_method_24_code 49 = .ok (.aload_n 0, 1) := by decide +kernel
theorem d_BT_calmsBy_50 : decode prog_1_method_24_code 50 = .ok (.iload_n 1, 1) := by decide +kernel
theorem d_BT_calmsBy_51 : decode prog_1_method_24_code 51 = .ok (.iconst 1, 1) := by decide +kernel
theorem d_BT_calmsBy_52 : decode prog_1_method_24_code 52 = .ok (.isub, 1) := by decide +kernel
theorem d_BT_calmsBy_53 : decode prog_1_method_24_code 53 = .ok (.iload 4, 2) := by decide +kernel
theorem d_BT_calmsBy_55 : decode prog_1_method_24_code 55 = .ok (.iconst 1, 1) := by decide +kernel
theorem d_BT_calmsBy_56 : decode prog_1_method_24_code 56 = .ok (.iadd, 1) := by decide +kernel
theorem d_BT_calmsBy_57 : decode prog_1_method_24_code 57 = .ok (.iload_n 3, 1) := by decide +kernel
theorem d_BT_calmsBy_58 : decode prog_1_method_24_code 58 = .ok (.invokestatic 211, 3) := by decide +kernel
theorem d_BT_calmsBy_61 : decode prog_1_method_24_code 61 = .ok (.istore 6, 2) := by decide +kernel
theorem d_BT_calmsBy_63 : decode prog_1_method_24_code 63 = .ok (.aload_n 0, 1) := by decide +kernel
theorem d_BT_calmsBy_64 : decode prog_1_method_24_code 64 = .ok (.iload 5, 2) := by decide +kernel
theorem d_BT_calmsBy_66 : decode prog_1_method_24_code 66 = .ok (.iload 4, 2) := by decide +kernel
theorem d_BT_calmsBy_68 : decode prog_1_method_24_code 68 = .ok (.invokevirtual 230, 3) := by decide +kernel
theorem d_BT_calmsBy_71 : decode prog_1_method_24_code 71 = .ok (.iload 6, 2) := by decide +kernel
theorem d_BT_calmsBy_78 : decode prog_1_method_24_code 78 = .ok (.iinc 5 1, 3) := by decide +kernel
theorem d_BT_calmsBy_81 : decode prog_1_method_24_code 81 = .ok (.goto (-47), 3) := by decide +kernel
theorem d_BT_calmsBy_76 : decode prog_1_method_24_code 76 = .ok (.iconst 1, 1) := by decide +kernel
theorem d_BT_calmsBy_77 : decode prog_1_method_24_code 77 = .ok (.ireturn, 1) := by decide +kernel
theorem d_BT_calmsBy_73 : decode prog_1_method_24_code 73 = .ok (.ifCond .eq 5, 3) := by decide +kernel
theorem d_BT_calmsBy_38 : decode prog_1_method_24_code 38 = .ok (.if_icmp .ge 46, 3) := by decide +kernel
set_option maxRecDepth 10000 in
set_option maxHeartbeats 4000000 in
theorem W_BT_calmsBy_34 {d : Nat} {q : QT} {z : ZT} {ν : Ml} {f7 : Nat} {f8 : Int32} {f9 : Int32} {f10 : Int32} {rec : Nat → Int32 → Int32 → Int32 → Mm → Option (Int32 × Mm)} {k : Mm → Option (Int32 × Mm)} (C : Ctx sdX q z prog_1_method_24_code "BesideTom" 7 (6 + 2 * (d + 1)) (some (FieldType.boolean))) (hrec : ∀ (a0 : Nat) (a1 : Int32) (a2 : Int32) (a3 : Int32) (μ : Mm) (ν : Ml) (o : Int32 × Mm) (h_a0 : a0 ∈ seats), rec a0 a1 a2 a3 μ = some o → Ct sdX q y_BT_calmsBy prog_1_method_24_code 7 (some (FieldType.boolean)) (6 + 2 * d) [.ref (q.2.2.1 a0), .int a1, .int a2, .int a3] μ ν ((φIm ν) o).1 ((φIm ν) o).2.1 ((φIm ν) o).2.2) (h_f7 : f7 ∈ seats) (hk : ∀ (me_ : Mm), R sdX q z 7 (φIm ν) (k me_) me_ ν 84 [(0, .ref (q.2.2.1 f7)), (1, .int f8), (3, .int f9), (4, .int f10)] []) : ∀ (n : Nat) (s6 : Int32) (μ11 : Mm), R sdX q z 7 (φIm ν) (L_BT_calmsBy_34 rec f7 f8 f9 f10 k n s6 μ11) μ11 ν 34 [(5, .int s6), (0, .ref (q.2.2.1 f7)), (1, .int f8), (3, .int f9), (4, .int f10)] [] := by
  intro n
  induction n with
  | zero =>
    intros
    exact R_none
  | succ n ih =>
    intro s6 μ11
    rw [L_BT_calmsBy_34]
    refine R_iload C 0 d_BT_calmsBy_34 rfl ?_
    refine R_iload C 4 d_BT_calmsBy_36 rfl ?_
    refine R_icmp_ge C d_BT_calmsBy_38 (tgt := 84) (by decide) ?_ ?_
    · skip
      exact R_sub [1, 2, 3, 4] rfl (hk μ11)
    · skip
      refine R_aload_n C 1 d_BT_calmsBy_41 rfl rfl ?_
      refine R_iload C 0 d_BT_calmsBy_42 rfl ?_
      refine R_iload C 4 d_BT_calmsBy_44 rfl ?_
      refine R_bind (fun μ12 h13 => ?_)
      refine R_callV C (se_0 h_f7) (sc_0 h_f7 q _ _) rfl cf_Seat_swaps rfl ml_BT_230 im_Seat_swaps sl_Seat_Seat_swaps_Seat_swaps (c_Seat_swaps (gk C) h_f7 h13) (by omega) (by decide) rfl rfl (Nat.le_of_ble_eq_true rfl) d_BT_calmsBy_46 ?_
      refine R_aload_n C 1 d_BT_calmsBy_49 rfl rfl ?_
      refine R_iload_n C 2 d_BT_calmsBy_50 rfl rfl ?_
      refine R_iconst C d_BT_calmsBy_51 (v := 1) (by decide +kernel) ?_
      refine R_isub C d_BT_calmsBy_52 ?_
      refine R_iload C 4 d_BT_calmsBy_53 rfl ?_
      refine R_iconst C d_BT_calmsBy_55 (v := 1) (by decide +kernel) ?_
      refine R_iadd C d_BT_calmsBy_56 ?_
      refine R_iload_n C 3 d_BT_calmsBy_57 rfl rfl ?_
      refine R_bind (fun r_ h16 => ?_)
      obtain ⟨v14, μ15⟩ := r_
      refine R_callS C cf_BT_calmsBy ml_BT_211 sm_BT_calmsBy (hrec _ _ _ _ _ _ _ h_f7 h16) (by omega) (by decide) rfl rfl (Nat.le_of_ble_eq_true rfl) d_BT_calmsBy_58 ?_
      refine R_istore C (lv' := [(6, .int v14), (5, .int s6), (0, .ref (q.2.2.1 f7)), (1, .int f8), (3, .int f9), (4, .int f10)]) d_BT_calmsBy_61 (by decide) rfl ?_
      refine R_aload_n C 2 d_BT_calmsBy_63 rfl rfl ?_
      refine R_iload C 1 d_BT_calmsBy_64 rfl ?_
      refine R_iload C 5 d_BT_calmsBy_66 rfl ?_
      refine R_bind (fun μ17 h18 => ?_)
      refine R_callV C (se_0 h_f7) (sc_0 h_f7 q _ _) rfl cf_Seat_swaps rfl ml_BT_230 im_Seat_swaps sl_Seat_Seat_swaps_Seat_swaps (c_Seat_swaps (gk C) h_f7 h18) (by omega) (by decide) rfl rfl (Nat.le_of_ble_eq_true rfl) d_BT_calmsBy_68 ?_
      refine R_iload C 0 d_BT_calmsBy_71 rfl ?_
      refine R_if_eq C d_BT_calmsBy_73 (tgt := 78) (by decide) ?_ ?_
      · skip
        refine R_iinc C 1 d_BT_calmsBy_78 rfl (iinc_v _ (v := 1) (by decide +kernel)) (lv' := [(5, .int (s6 + 1)), (6, .int v14), (0, .ref (q.2.2.1 f7)), (1, .int f8), (3, .int f9), (4, .int f10)]) (by decide) rfl ?_
        refine R_goto C d_BT_calmsBy_81 (tgt := 34) (by decide) ?_
        exact R_sub [0, 2, 3, 4, 5] rfl (ih (s6 + 1) μ17)
      · skip
        refine R_iconst C d_BT_calmsBy_76 (v := 1) (by decide +kernel) ?_
        exact R_zret C (by decide) rfl d_BT_calmsBy_77
theorem d_BT_calmsBy_84 : decode prog_1_method_24_code 84 = .ok (.iinc 4 1, 3) := by decide +kernel
theorem d_BT_calmsBy_87 : decode prog_1_method_24_code 87 = .ok (.goto (-65), 3) := by decide +kernel
theorem d_BT_calmsBy_28 : decode prog_1_method_24_code 28 = .ok (.if_icmp .ge 62, 3) := by decide +kernel
theorem d_BT_calmsBy_25 : decode prog_1_method_24_code 25 = .ok (.getfield 80, 3) := by decide +kernel
set_option maxRecDepth 10000 in
set_option maxHeartbeats 4000000 in
theorem W_BT_calmsBy_22 {d : Nat} {q : QT} {z : ZT} {ν : Ml} {f2 : Nat} {f3 : Int32} {f4 : Int32} {rec : Nat → Int32 → Int32 → Int32 → Mm → Option (Int32 × Mm)} {k : Mm → Option (Int32 × Mm)} (C : Ctx sdX q z prog_1_method_24_code "BesideTom" 7 (6 + 2 * (d + 1)) (some (FieldType.boolean))) (hrec : ∀ (a0 : Nat) (a1 : Int32) (a2 : Int32) (a3 : Int32) (μ : Mm) (ν : Ml) (o : Int32 × Mm) (h_a0 : a0 ∈ seats), rec a0 a1 a2 a3 μ = some o → Ct sdX q y_BT_calmsBy prog_1_method_24_code 7 (some (FieldType.boolean)) (6 + 2 * d) [.ref (q.2.2.1 a0), .int a1, .int a2, .int a3] μ ν ((φIm ν) o).1 ((φIm ν) o).2.1 ((φIm ν) o).2.2) (h_f2 : f2 ∈ seats) (hk : ∀ (me_ : Mm), R sdX q z 7 (φIm ν) (k me_) me_ ν 90 [] []) : ∀ (n : Nat) (s1 : Int32) (μ5 : Mm), R sdX q z 7 (φIm ν) (L_BT_calmsBy_22 rec f2 f3 f4 k n s1 μ5) μ5 ν 22 [(4, .int s1), (0, .ref (q.2.2.1 f2)), (1, .int f3), (3, .int f4)] [] := by
  intro n
  induction n with
  | zero =>
    intros
    exact R_none
  | succ n ih =>
    intro s1 μ5
    rw [L_BT_calmsBy_22]
    refine R_iload C 0 d_BT_calmsBy_22 rfl ?_
    refine R_aload_n C 1 d_BT_calmsBy_24 rfl rfl ?_
    refine gf_Seat_many C h_f2 fl_BT_80 d_BT_calmsBy_25 ?_
    refine R_icmp_ge C d_BT_calmsBy_28 (tgt := 90) (by decide) ?_ ?_
    · skip
      exact R_sub [] rfl (hk μ5)
    · skip
      refine R_iconst C d_BT_calmsBy_31 (v := 0) (by decide +kernel) ?_
      refine R_istore C (lv' := [(5, .int 0), (4, .int s1), (0, .ref (q.2.2.1 f2)), (1, .int f3), (3, .int f4)]) d_BT_calmsBy_32 (by decide) rfl ?_
      refine R_sub [0, 2, 3, 4, 1] rfl ?_
      refine W_BT_calmsBy_34 C hrec h_f2 ?_ fu _ _
      intro μ19
      refine R_iinc C 3 d_BT_calmsBy_84 rfl (iinc_v _ (v := 1) (by decide +kernel)) (lv' := [(4, .int (s1 + 1)), (0, .ref (q.2.2.1 f2)), (1, .int f3), (3, .int f4)]) (by decide) rfl ?_
      refine R_goto C d_BT_calmsBy_87 (tgt := 22) (by decide) ?_
      exact R_sub [0, 1, 2, 3] rfl (ih (s1 + 1) μ19)
theorem d_BT_calmsBy_90 : decode prog_1_method_24_code 90 = .ok (.iconst 0, 1) := by decide +kernel
theorem d_BT_calmsBy_91 : decode prog_1_method_24_code 91 = .ok (.ireturn, 1) := by decide +kernel
theorem d_BT_calmsBy_4 : decode prog_1_method_24_code 4 = .ok (.aload_n 0, 1) := by decide +kernel
theorem d_BT_calmsBy_5 : decode prog_1_method_24_code 5 = .ok (.iconst 0, 1) := by decide +kernel
theorem d_BT_calmsBy_6 : decode prog_1_method_24_code 6 = .ok (.invokevirtual 124, 3) := by decide +kernel
theorem d_BT_calmsBy_9 : decode prog_1_method_24_code 9 = .ok (.iload_n 3, 1) := by decide +kernel
theorem d_BT_calmsBy_17 : decode prog_1_method_24_code 17 = .ok (.iconst 0, 1) := by decide +kernel
theorem d_BT_calmsBy_18 : decode prog_1_method_24_code 18 = .ok (.ireturn, 1) := by decide +kernel
theorem d_BT_calmsBy_13 : decode prog_1_method_24_code 13 = .ok (.iconst 1, 1) := by decide +kernel
theorem d_BT_calmsBy_14 : decode prog_1_method_24_code 14 = .ok (.goto 4, 3) := by decide +kernel
theorem d_BT_calmsBy_10 : decode prog_1_method_24_code 10 = .ok (.if_icmp .gt 7, 3) := by decide +kernel
theorem d_BT_calmsBy_1 : decode prog_1_method_24_code 1 = .ok (.ifCond .gt 18, 3) := by decide +kernel
set_option maxRecDepth 10000 in
set_option maxHeartbeats 4000000 in
theorem w_BT_calmsBy {d : Nat} {q : QT} {z : ZT} {rec : Nat → Int32 → Int32 → Int32 → Mm → Option (Int32 × Mm)} {a0 : Nat} {a1 : Int32} {a2 : Int32} {a3 : Int32} {μ : Mm} {ν : Ml} (C : Ctx sdX q z prog_1_method_24_code "BesideTom" 7 (6 + 2 * (d + 1)) (some (FieldType.boolean))) (hrec : ∀ (a0 : Nat) (a1 : Int32) (a2 : Int32) (a3 : Int32) (μ : Mm) (ν : Ml) (o : Int32 × Mm) (h_a0 : a0 ∈ seats), rec a0 a1 a2 a3 μ = some o → Ct sdX q y_BT_calmsBy prog_1_method_24_code 7 (some (FieldType.boolean)) (6 + 2 * d) [.ref (q.2.2.1 a0), .int a1, .int a2, .int a3] μ ν ((φIm ν) o).1 ((φIm ν) o).2.1 ((φIm ν) o).2.2) (h_a0 : a0 ∈ seats) : R sdX q z 7 (φIm ν) (B_BT_calmsBy rec a0 a1 a2 a3 μ) μ ν 0 [(0, .ref (q.2.2.1 a0)), (1, .int a1), (2, .int a2), (3, .int a3)] [] := by
  unfold B_BT_calmsBy
  refine R_iload_n C 1 d_BT_calmsBy_0 rfl rfl ?_
  refine R_if_gt C d_BT_calmsBy_1 (tgt := 19) (by decide) ?_ ?_
  · skip
    refine R_iload_n C 2 d_BT_calmsBy_19 rfl rfl ?_
    refine R_istore C (lv' := [(4, .int a2), (0, .ref (q.2.2.1 a0)), (1, .int a1), (2, .int a2), (3, .int a3)]) d_BT_calmsBy_20 (by decide) rfl ?_
    refine R_sub [0, 1, 2, 4] rfl ?_
    refine W_BT_calmsBy_22 C hrec h_a0 ?_ fu _ _
    intro μ20
    refine R_iconst C d_BT_calmsBy_90 (v := 0) (by decide +kernel) ?_
    exact R_zret C (by decide) rfl d_BT_calmsBy_91
  · skip
    refine R_aload_n C 0 d_BT_calmsBy_4 rfl rfl ?_
    refine R_iconst C d_BT_calmsBy_5 (v := 0) (by decide +kernel) ?_
    refine R_bind (fun v21 h22 => ?_)
    refine R_callV C (se_0 h_a0) (sc_0 h_a0 q _ _) rfl cf_Seat_noise rfl ml_BT_124 im_Seat_noise sl_Seat_Seat_noise_Seat_noise (c_Seat_noise (gk C) h_a0 h22) (by omega) (by decide) rfl rfl (Nat.le_of_ble_eq_true rfl) d_BT_calmsBy_6 ?_
    refine R_iload_n C 3 d_BT_calmsBy_9 rfl rfl ?_
    refine R_icmp_gt C d_BT_calmsBy_10 (tgt := 17) (by decide) ?_ ?_
    · skip
      refine R_iconst C d_BT_calmsBy_17 (v := 0) (by decide +kernel) ?_
      exact R_zret C (by decide) rfl d_BT_calmsBy_18
    · skip
      refine R_iconst C d_BT_calmsBy_13 (v := 1) (by decide +kernel) ?_
      refine R_goto C d_BT_calmsBy_14 (tgt := 18) (by decide) ?_
      exact R_zret C (by decide) rfl d_BT_calmsBy_18
def F_BT_calmsBy : Nat → Nat → Int32 → Int32 → Int32 → Mm → Option (Int32 × Mm)
  | 0, _, _, _, _, _ => none
  | d + 1, a0, a1, a2, a3, μ => B_BT_calmsBy (F_BT_calmsBy d) a0 a1 a2 a3 μ
theorem c_BT_calmsBy {d : Nat} {q : QT} (hg : GOk sdX q) {a0 : Nat} {a1 : Int32} {a2 : Int32} {a3 : Int32} {μ : Mm} {ν : Ml} (h_a0 : a0 ∈ seats) {o : Int32 × Mm} (ho : F_BT_calmsBy d a0 a1 a2 a3 μ = some o) : Ct sdX q y_BT_calmsBy prog_1_method_24_code 7 (some (FieldType.boolean)) (6 + 2 * d) [.ref (q.2.2.1 a0), .int a1, .int a2, .int a3] μ ν ((φIm ν) o).1 ((φIm ν) o).2.1 ((φIm ν) o).2.2 := by
  revert a0 a1 a2 a3 μ ν h_a0 o
  induction d with
  | zero =>
    intros
    rename_i ho
    cases ho
  | succ d ih =>
    intro a0 a1 a2 a3 μ ν h_a0 o ho
    exact Ct_of rfl hg (fun z C => w_BT_calmsBy (rec := F_BT_calmsBy d) C (fun a0 a1 a2 a3 μ ν o h_a0 ho => ih h_a0 ho) h_a0) (Nat.le_of_ble_eq_true rfl) ho
def F_BT_best (a1 : Int32) (μ : Mm) : Option (Int32 × Mm) := (if a1 = 0 then (F_BT_change μ).bind fun p_ => match p_ with | (v4, μ5) => some (v4, μ5) else (if a1 = 1 then (F_BT_worst μ).bind fun p_ => match p_ with | (v1, μ2) => some (v1, μ2) else some ((-1), μ)))
theorem d_BT_best_0 : decode prog_1_method_17_code 0 = .ok (.iload_n 1, 1) := by decide +kernel
theorem d_BT_best_9 : decode prog_1_method_17_code 9 = .ok (.iload_n 1, 1) := by decide +kernel
theorem d_BT_best_10 : decode prog_1_method_17_code 10 = .ok (.iconst 1, 1) := by decide +kernel
theorem d_BT_best_21 : decode prog_1_method_17_code 21 = .ok (.iconst (-1), 1) := by decide +kernel
theorem d_BT_best_22 : decode prog_1_method_17_code 22 = .ok (.ireturn, 1) := by decide +kernel
theorem d_BT_best_14 : decode prog_1_method_17_code 14 = .ok (.aload_n 0, 1) := by decide +kernel
theorem d_BT_best_15 : decode prog_1_method_17_code 15 = .ok (.invokevirtual 208, 3) := by decide +kernel
theorem d_BT_best_18 : decode prog_1_method_17_code 18 = .ok (.goto 4, 3) := by decide +kernel
theorem d_BT_best_11 : decode prog_1_method_17_code 11 = .ok (.if_icmp .ne 10, 3) := by decide +kernel
theorem d_BT_best_4 : decode prog_1_method_17_code 4 = .ok (.aload_n 0, 1) := by decide +kernel
theorem d_BT_best_5 : decode prog_1_method_17_code 5 = .ok (.invokevirtual 205, 3) := by decide +kernel
theorem d_BT_best_8 : decode prog_1_method_17_code 8 = .ok (.ireturn, 1) := by decide +kernel
theorem d_BT_best_1 : decode prog_1_method_17_code 1 = .ok (.ifCond .ne 8, 3) := by decide +kernel
set_option maxRecDepth 10000 in
set_option maxHeartbeats 4000000 in
theorem w_BT_best {q : QT} {z : ZT} {a1 : Int32} {μ : Mm} {ν : Ml} (C : Ctx sdX q z prog_1_method_17_code "BesideTom" 2 7 (some (FieldType.int))) : R sdX q z 2 (φIm ν) (F_BT_best a1 μ) μ ν 0 [(0, .ref (q.2.2.1 0)), (1, .int a1)] [] := by
  unfold F_BT_best
  refine R_iload_n C 1 d_BT_best_0 rfl rfl ?_
  refine R_if_ne C d_BT_best_1 (tgt := 9) (by decide) ?_ ?_
  · skip
    refine R_iload_n C 1 d_BT_best_9 rfl rfl ?_
    refine R_iconst C d_BT_best_10 (v := 1) (by decide +kernel) ?_
    refine R_icmp_ne C d_BT_best_11 (tgt := 21) (by decide) ?_ ?_
    · skip
      refine R_iconst C d_BT_best_21 (v := (-1)) (by decide +kernel) ?_
      exact R_iret C rfl d_BT_best_22
    · skip
      refine R_aload_n C 0 d_BT_best_14 rfl rfl ?_
      refine R_bind (fun r_ h3 => ?_)
      obtain ⟨v1, μ2⟩ := r_
      refine R_callV C xm_0 (xc_0 q _ _) rfl cf_BT_worst rfl ml_BT_208 im_BT_worst sl_BT_BT_worst_BT_worst (c_BT_worst (gk C) h3) (by decide) (by decide) rfl rfl (Nat.le_of_ble_eq_true rfl) d_BT_best_15 ?_
      refine R_goto C d_BT_best_18 (tgt := 22) (by decide) ?_
      exact R_iret C rfl d_BT_best_22
  · skip
    refine R_aload_n C 0 d_BT_best_4 rfl rfl ?_
    refine R_bind (fun r_ h6 => ?_)
    obtain ⟨v4, μ5⟩ := r_
    refine R_callV C xm_0 (xc_0 q _ _) rfl cf_BT_change rfl ml_BT_205 im_BT_change sl_BT_BT_change_BT_change (c_BT_change (gk C) h6) (by decide) (by decide) rfl rfl (Nat.le_of_ble_eq_true rfl) d_BT_best_5 ?_
    exact R_iret C rfl d_BT_best_8
theorem c_BT_best {q : QT} (hg : GOk sdX q) {a1 : Int32} {μ : Mm} {ν : Ml} {o : Int32 × Mm} (ho : F_BT_best a1 μ = some o) : Ct sdX q y_BT_best prog_1_method_17_code 2 (some (FieldType.int)) 7 [.ref (q.2.2.1 0), .int a1] μ ν ((φIm ν) o).1 ((φIm ν) o).2.1 ((φIm ν) o).2.2 := Ct_of rfl hg (fun z C => w_BT_best C) (Nat.le_of_ble_eq_true rfl) ho
def L_BT_ends_24 (f6 : Int32) (k : Mm → Option (Int32 × Mm)) : Nat → Int32 → Mm → Option (Int32 × Mm)
  | 0, _, _ => none
  | n + 1, s5, μ7 => (if (μ7 50 2) ≤ s5 then k μ7 else (rdI (μ7 52) (rlen 50) s5).bind fun v8 => (rdI (μ7 51) (rlen 50) s5).bind fun v9 => jn (α := Mm) (fun K19 => (if v9 = 0 then (F_Seat_weekGoes 60 (1000000000) μ7).bind fun μ10 => K19 μ10 else if v9 = 1 then (F_Seat_setAway 60 v8 1 μ7).bind fun μ12 => K19 μ12 else if v9 = 2 then (F_Seat_setAway 60 v8 0 μ7).bind fun μ14 => K19 μ14 else (F_Seat_moves 60 0 v8 μ7).bind fun μ16 => K19 μ16)) (fun (μ18 : Mm) => L_BT_ends_24 f6 k n (s5 + 1) μ18))
def F_BT_ends (a1 : Int32) (μ : Mm) : Option (Int32 × Mm) := (F_BT_within a1 0 1).bind fun v1 => (if v1 = 0 then some ((-1), μ) else (F_Seat_becomes 60 40 μ).bind fun μ3 => L_BT_ends_24 a1 (fun (μ23 : Mm) => (if a1 = 0 then (F_Seat_noise 60 0 μ23).bind fun v26 => some (v26, μ23) else (F_Seat_knowsOfAll 60 μ23).bind fun v24 => some (v24, μ23))) fu 0 μ3)
theorem d_BT_ends_0 : decode prog_1_method_32_code 0 = .ok (.iload_n 1, 1) := by decide +kernel
theorem d_BT_ends_1 : decode prog_1_method_32_code 1 = .ok (.iconst 0, 1) := by decide +kernel
theorem d_BT_ends_2 : decode prog_1_method_32_code 2 = .ok (.iconst 1, 1) := by decide +kernel
theorem d_BT_ends_3 : decode prog_1_method_32_code 3 = .ok (.invokestatic 76, 3) := by decide +kernel
theorem d_BT_ends_11 : decode prog_1_method_32_code 11 = .ok (.aload_n 0, 1) := by decide +kernel
theorem d_BT_ends_15 : decode prog_1_method_32_code 15 = .ok (.aload_n 0, 1) := by decide +kernel
theorem d_BT_ends_19 : decode prog_1_method_32_code 19 = .ok (.invokevirtual 192, 3) := by decide +kernel
theorem d_BT_ends_22 : decode prog_1_method_32_code 22 = .ok (.iconst 0, 1) := by decide +kernel
theorem d_BT_ends_23 : decode prog_1_method_32_code 23 = .ok (.istore_n 2, 1) := by decide +kernel
theorem d_BT_ends_24 : decode prog_1_method_32_code 24 = .ok (.iload_n 2, 1) := by decide +kernel
theorem d_BT_ends_25 : decode prog_1_method_32_code 25 = .ok (.aload_n 0, 1) := by decide +kernel
theorem d_BT_ends_38 : decode prog_1_method_32_code 38 = .ok (.aload_n 0, 1) := by decide +kernel
theorem d_BT_ends_48 : decode prog_1_method_32_code 48 = .ok (.iload_n 2, 1) := by decide +kernel
theorem d_BT_ends_50 : decode prog_1_method_32_code 50 = .ok (.istore_n 3, 1) := by decide +kernel
theorem d_BT_ends_51 : decode prog_1_method_32_code 51 = .ok (.aload_n 0, 1) := by decide +kernel
theorem d_BT_ends_61 : decode prog_1_method_32_code 61 = .ok (.iload_n 2, 1) := by decide +kernel
theorem d_BT_ends_63 : decode prog_1_method_32_code 63 = .ok (.tableswitch 61 0 2 #[25, 37, 49], 25) := by decide +kernel
theorem d_BT_ends_88 : decode prog_1_method_32_code 88 = .ok (.aload_n 0, 1) := by decide +kernel
theorem d_BT_ends_92 : decode prog_1_method_32_code 92 = .ok (.ldc 196, 2) := by decide +kernel
theorem d_BT_ends_94 : decode prog_1_method_32_code 94 = .ok (.invokevirtual 185, 3) := by decide +kernel
theorem d_BT_ends_97 : decode prog_1_method_32_code 97 = .ok (.goto 36, 3) := by decide +kernel
theorem d_BT_ends_89 : decode prog_1_method_32_code 89 = .ok (.getfield 56, 3) := by decide +kernel
theorem d_BT_ends_100 : decode prog_1_method_32_code 100 = .ok (.aload_n 0, 1) := by decide +kernel
theorem d_BT_ends_104 : decode prog_1_method_32_code 104 = .ok (.iload_n 3, 1) := by decide +kernel
theorem d_BT_ends_105 : decode prog_1_method_32_code 105 = .ok (.iconst 1, 1) := by decide +kernel
theorem d_BT_ends_106 : decode prog_1_method_32_code 106 = .ok (.invokevirtual 137, 3) := by decide +kernel
theorem d_BT_ends_109 : decode prog_1_method_32_code 109 = .ok (.goto 24, 3) := by decide +kernel
theorem d_BT_ends_101 : decode prog_1_method_32_code 101 = .ok (.getfield 56, 3) := by decide +kernel
theorem d_BT_ends_112 : decode prog_1_method_32_code 112 = .ok (.aload_n 0, 1) := by decide +kernel
theorem d_BT_ends_116 : decode prog_1_method_32_code 116 = .ok (.iload_n 3, 1) := by decide +kernel
theorem d_BT_ends_117 : decode prog_1_method_32_code 117 = .ok (.iconst 0, 1) := by decide +kernel
theorem d_BT_ends_118 : decode prog_1_method_32_code 118 = .ok (.invokevirtual 137, 3) := by decide +kernel
theorem d_BT_ends_121 : decode prog_1_method_32_code 121 = .ok (.goto 12, 3) := by decide +kernel
theorem d_BT_ends_113 : decode prog_1_method_32_code 113 = .ok (.getfield 56, 3) := by decide +kernel
theorem d_BT_ends_124 : decode prog_1_method_32_code 124 = .ok (.aload_n 0, 1) := by decide +kernel
theorem d_BT_ends_128 : decode prog_1_method_32_code 128 = .ok (.iconst 0, 1) := by decide +kernel
theorem d_BT_ends_129 : decode prog_1_method_32_code 129 = .ok (.iload_n 3, 1) := by decide +kernel
theorem d_BT_ends_130 : decode prog_1_method_32_code 130 = .ok (.invokevirtual 133, 3) := by decide +kernel
theorem d_BT_ends_125 : decode prog_1_method_32_code 125 = .ok (.getfield 56, 3) := by decide +kernel
theorem d_BT_ends_133 : decode prog_1_method_32_code 133 = .ok (.iinc 2 1, 3) := by decide +kernel
theorem d_BT_ends_136 : decode prog_1_method_32_code 136 = .ok (.goto (-112), 3) := by decide +kernel
theorem d_BT_ends_58 : decode prog_1_method_32_code 58 = .ok (.getfield 270, 3) := by decide +kernel
theorem d_BT_ends_55 : decode prog_1_method_32_code 55 = .ok (.getfield 263, 3) := by decide +kernel
theorem d_BT_ends_52 : decode prog_1_method_32_code 52 = .ok (.getfield 52, 3) := by decide +kernel
theorem d_BT_ends_45 : decode prog_1_method_32_code 45 = .ok (.getfield 267, 3) := by decide +kernel
theorem d_BT_ends_42 : decode prog_1_method_32_code 42 = .ok (.getfield 263, 3) := by decide +kernel
theorem d_BT_ends_39 : decode prog_1_method_32_code 39 = .ok (.getfield 52, 3) := by decide +kernel
theorem d_BT_ends_35 : decode prog_1_method_32_code 35 = .ok (.if_icmp .ge 104, 3) := by decide +kernel
theorem d_BT_ends_32 : decode prog_1_method_32_code 32 = .ok (.getfield 266, 3) := by decide +kernel
theorem d_BT_ends_29 : decode prog_1_method_32_code 29 = .ok (.getfield 263, 3) := by decide +kernel
theorem d_BT_ends_26 : decode prog_1_method_32_code 26 = .ok (.getfield 52, 3) := by decide +kernel
theorem d_BT_ends_49 : decode prog_1_method_32_code 49 = .ok (.iaload, 1) := by decide +kernel
theorem d_BT_ends_62 : decode prog_1_method_32_code 62 = .ok (.iaload, 1) := by decide +kernel
set_option maxRecDepth 10000 in
set_option maxHeartbeats 4000000 in
theorem W_BT_ends_24 {q : QT} {z : ZT} {ν : Ml} {f6 : Int32} {k : Mm → Option (Int32 × Mm)} (C : Ctx sdX q z prog_1_method_32_code "BesideTom" 4 7 (some (FieldType.int))) (hk : ∀ (me_ : Mm), R sdX q z 4 (φIm ν) (k me_) me_ ν 139 [(0, .ref (q.2.2.1 0)), (1, .int f6)] []) : ∀ (n : Nat) (s5 : Int32) (μ7 : Mm), R sdX q z 4 (φIm ν) (L_BT_ends_24 f6 k n s5 μ7) μ7 ν 24 [(2, .int s5), (0, .ref (q.2.2.1 0)), (1, .int f6)] [] := by
  intro n
  induction n with
  | zero =>
    intros
    exact R_none
  | succ n ih =>
    intro s5 μ7
    rw [L_BT_ends_24]
    refine R_iload_n C 0 d_BT_ends_24 rfl rfl ?_
    refine R_aload_n C 1 d_BT_ends_25 rfl rfl ?_
    refine gf_BT_now C fl_BT_52 d_BT_ends_26 ?_
    refine gf_Seat_term C s40 fl_BT_263 d_BT_ends_29 ?_
    refine gf_Rows_many C (sr_10 s40) fl_BT_266 d_BT_ends_32 ?_
    refine R_icmp_ge C d_BT_ends_35 (tgt := 139) (by decide) ?_ ?_
    · skip
      exact R_sub [1, 2] rfl (hk μ7)
    · skip
      refine R_aload_n C 1 d_BT_ends_38 rfl rfl ?_
      refine gf_BT_now C fl_BT_52 d_BT_ends_39 ?_
      refine gf_Seat_term C s40 fl_BT_263 d_BT_ends_42 ?_
      refine gf_Rows_second C (sr_10 s40) fl_BT_267 d_BT_ends_45 ?_
      refine R_iload_n C 0 d_BT_ends_48 rfl rfl ?_
      refine R_iald C (re_2 (sr_10 s40)) (rc_2 (sr_10 s40) q _ _) d_BT_ends_49 (fun v8 => ?_)
      refine R_istore_n C (lv' := [(3, .int v8), (2, .int s5), (0, .ref (q.2.2.1 0)), (1, .int f6)]) d_BT_ends_50 rfl (by decide) rfl ?_
      refine R_aload_n C 2 d_BT_ends_51 rfl rfl ?_
      refine gf_BT_now C fl_BT_52 d_BT_ends_52 ?_
      refine gf_Seat_term C s40 fl_BT_263 d_BT_ends_55 ?_
      refine gf_Rows_first C (sr_10 s40) fl_BT_270 d_BT_ends_58 ?_
      refine R_iload_n C 1 d_BT_ends_61 rfl rfl ?_
      refine R_iald C (re_1 (sr_10 s40)) (rc_1 (sr_10 s40) q _ _) d_BT_ends_62 (fun v9 => ?_)
      refine R_jn (fun K19 => ∀ (μ18 : Mm), R sdX q z 4 (φIm ν) (K19 μ18) μ18 ν 133 [(0, .ref (q.2.2.1 0)), (1, .int f6), (2, .int s5)] []) ?_ (fun K19 hK19 => ?_)
      · intro μ18
        refine R_iinc C 2 d_BT_ends_133 rfl (iinc_v _ (v := 1) (by decide +kernel)) (lv' := [(2, .int (s5 + 1)), (0, .ref (q.2.2.1 0)), (1, .int f6)]) (by decide) rfl ?_
        refine R_goto C d_BT_ends_136 (tgt := 24) (by decide) ?_
        exact R_sub [0, 1, 2] rfl (ih (s5 + 1) μ18)
      · skip
        refine R_ite (fun e20 => ?_) (fun e20 => ?_)
        · refine R_tsw C e20 d_BT_ends_63 (tgt := 88) (by decide +kernel) (by decide +kernel) rfl (by decide) ?_
          refine R_aload_n C 2 d_BT_ends_88 rfl rfl ?_
          refine gf_BT_asked C fl_BT_56 d_BT_ends_89 ?_
          refine R_ldc C k_BT_196 d_BT_ends_92 ?_
          refine R_bind (fun μ10 h11 => ?_)
          refine R_callV C (se_0 s60) (sc_0 s60 q _ _) rfl cf_Seat_weekGoes rfl ml_BT_185 im_Seat_weekGoes sl_Seat_Seat_weekGoes_Seat_weekGoes (c_Seat_weekGoes (gk C) s60 h11) (by decide) (by decide) rfl rfl (Nat.le_of_ble_eq_true rfl) d_BT_ends_94 ?_
          refine R_goto C d_BT_ends_97 (tgt := 133) (by decide) ?_
          exact R_sub [2, 3, 1] rfl (hK19 μ10)
        refine R_ite (fun e21 => ?_) (fun e21 => ?_)
        · refine R_tsw C e21 d_BT_ends_63 (tgt := 100) (by decide +kernel) (by decide +kernel) rfl (by decide) ?_
          refine R_aload_n C 2 d_BT_ends_100 rfl rfl ?_
          refine gf_BT_asked C fl_BT_56 d_BT_ends_101 ?_
          refine R_iload_n C 0 d_BT_ends_104 rfl rfl ?_
          refine R_iconst C d_BT_ends_105 (v := 1) (by decide +kernel) ?_
          refine R_bind (fun μ12 h13 => ?_)
          refine R_callV C (se_0 s60) (sc_0 s60 q _ _) rfl cf_Seat_setAway rfl ml_BT_137 im_Seat_setAway sl_Seat_Seat_setAway_Seat_setAway (c_Seat_setAway (gk C) s60 h13) (by decide) (by decide) rfl rfl (Nat.le_of_ble_eq_true rfl) d_BT_ends_106 ?_
          refine R_goto C d_BT_ends_109 (tgt := 133) (by decide) ?_
          exact R_sub [2, 3, 1] rfl (hK19 μ12)
        refine R_ite (fun e22 => ?_) (fun e22 => ?_)
        · refine R_tsw C e22 d_BT_ends_63 (tgt := 112) (by decide +kernel) (by decide +kernel) rfl (by decide) ?_
          refine R_aload_n C 2 d_BT_ends_112 rfl rfl ?_
          refine gf_BT_asked C fl_BT_56 d_BT_ends_113 ?_
          refine R_iload_n C 0 d_BT_ends_116 rfl rfl ?_
          refine R_iconst C d_BT_ends_117 (v := 0) (by decide +kernel) ?_
          refine R_bind (fun μ14 h15 => ?_)
          refine R_callV C (se_0 s60) (sc_0 s60 q _ _) rfl cf_Seat_setAway rfl ml_BT_137 im_Seat_setAway sl_Seat_Seat_setAway_Seat_setAway (c_Seat_setAway (gk C) s60 h15) (by decide) (by decide) rfl rfl (Nat.le_of_ble_eq_true rfl) d_BT_ends_118 ?_
          refine R_goto C d_BT_ends_121 (tgt := 133) (by decide) ?_
          exact R_sub [2, 3, 1] rfl (hK19 μ14)
        refine R_tswd C d_BT_ends_63 (tgt := 124) (sw_out (L := [0, 1, 2]) (n := 3) (by decide +kernel) (by decide +kernel) (List.forall_mem_cons.mpr ⟨e20, List.forall_mem_cons.mpr ⟨e21, List.forall_mem_cons.mpr ⟨e22, fun _ h => absurd h List.not_mem_nil⟩⟩⟩)) (by decide) ?_
        refine R_aload_n C 2 d_BT_ends_124 rfl rfl ?_
        refine gf_BT_asked C fl_BT_56 d_BT_ends_125 ?_
        refine R_iconst C d_BT_ends_128 (v := 0) (by decide +kernel) ?_
        refine R_iload_n C 0 d_BT_ends_129 rfl rfl ?_
        refine R_bind (fun μ16 h17 => ?_)
        refine R_callV C (se_0 s60) (sc_0 s60 q _ _) rfl cf_Seat_moves rfl ml_BT_133 im_Seat_moves sl_Seat_Seat_moves_Seat_moves (c_Seat_moves (gk C) s60 h17) (by decide) (by decide) rfl rfl (Nat.le_of_ble_eq_true rfl) d_BT_ends_130 ?_
        exact R_sub [2, 3, 1] rfl (hK19 μ16)
theorem d_BT_ends_139 : decode prog_1_method_32_code 139 = .ok (.iload_n 1, 1) := by decide +kernel
theorem d_BT_ends_154 : decode prog_1_method_32_code 154 = .ok (.aload_n 0, 1) := by decide +kernel
theorem d_BT_ends_158 : decode prog_1_method_32_code 158 = .ok (.invokevirtual 179, 3) := by decide +kernel
theorem d_BT_ends_161 : decode prog_1_method_32_code 161 = .ok (.ireturn, 1) := by decide +kernel
theorem d_BT_ends_155 : decode prog_1_method_32_code 155 = .ok (.getfield 56, 3) := by decide +kernel
theorem d_BT_ends_143 : decode prog_1_method_32_code 143 = .ok (.aload_n 0, 1) := by decide +kernel
theorem d_BT_ends_147 : decode prog_1_method_32_code 147 = .ok (.iconst 0, 1) := by decide +kernel
theorem d_BT_ends_148 : decode prog_1_method_32_code 148 = .ok (.invokevirtual 124, 3) := by decide +kernel
theorem d_BT_ends_151 : decode prog_1_method_32_code 151 = .ok (.goto 10, 3) := by decide +kernel
theorem d_BT_ends_144 : decode prog_1_method_32_code 144 = .ok (.getfield 56, 3) := by decide +kernel
theorem d_BT_ends_140 : decode prog_1_method_32_code 140 = .ok (.ifCond .ne 14, 3) := by decide +kernel
theorem d_BT_ends_16 : decode prog_1_method_32_code 16 = .ok (.getfield 52, 3) := by decide +kernel
theorem d_BT_ends_12 : decode prog_1_method_32_code 12 = .ok (.getfield 56, 3) := by decide +kernel
theorem d_BT_ends_9 : decode prog_1_method_32_code 9 = .ok (.iconst (-1), 1) := by decide +kernel
theorem d_BT_ends_10 : decode prog_1_method_32_code 10 = .ok (.ireturn, 1) := by decide +kernel
theorem d_BT_ends_6 : decode prog_1_method_32_code 6 = .ok (.ifCond .ne 5, 3) := by decide +kernel
set_option maxRecDepth 10000 in
set_option maxHeartbeats 4000000 in
theorem w_BT_ends {q : QT} {z : ZT} {a1 : Int32} {μ : Mm} {ν : Ml} (C : Ctx sdX q z prog_1_method_32_code "BesideTom" 4 7 (some (FieldType.int))) : R sdX q z 4 (φIm ν) (F_BT_ends a1 μ) μ ν 0 [(0, .ref (q.2.2.1 0)), (1, .int a1)] [] := by
  unfold F_BT_ends
  refine R_iload_n C 1 d_BT_ends_0 rfl rfl ?_
  refine R_iconst C d_BT_ends_1 (v := 0) (by decide +kernel) ?_
  refine R_iconst C d_BT_ends_2 (v := 1) (by decide +kernel) ?_
  refine R_bind (fun v1 h2 => ?_)
  refine R_callS C cf_BT_within ml_BT_76 sm_BT_within (c_BT_within (gk C) h2) (by decide) (by decide) rfl rfl (Nat.le_of_ble_eq_true rfl) d_BT_ends_3 ?_
  refine R_if_ne C d_BT_ends_6 (tgt := 11) (by decide) ?_ ?_
  · skip
    refine R_aload_n C 0 d_BT_ends_11 rfl rfl ?_
    refine gf_BT_asked C fl_BT_56 d_BT_ends_12 ?_
    refine R_aload_n C 0 d_BT_ends_15 rfl rfl ?_
    refine gf_BT_now C fl_BT_52 d_BT_ends_16 ?_
    refine R_bind (fun μ3 h4 => ?_)
    refine R_callV C (se_0 s60) (sc_0 s60 q _ _) rfl cf_Seat_becomes rfl ml_BT_192 im_Seat_becomes sl_Seat_Seat_becomes_Seat_becomes (c_Seat_becomes (gk C) s60 s40 h4) (by decide) (by decide) rfl rfl (Nat.le_of_ble_eq_true rfl) d_BT_ends_19 ?_
    refine R_iconst C d_BT_ends_22 (v := 0) (by decide +kernel) ?_
    refine R_istore_n C (lv' := [(2, .int 0), (0, .ref (q.2.2.1 0)), (1, .int a1)]) d_BT_ends_23 rfl (by decide) rfl ?_
    refine R_sub [0, 1, 2] rfl ?_
    refine W_BT_ends_24 C ?_ fu _ _
    intro μ23
    refine R_iload_n C 1 d_BT_ends_139 rfl rfl ?_
    refine R_if_ne C d_BT_ends_140 (tgt := 154) (by decide) ?_ ?_
    · skip
      refine R_aload_n C 0 d_BT_ends_154 rfl rfl ?_
      refine gf_BT_asked C fl_BT_56 d_BT_ends_155 ?_
      refine R_bind (fun v24 h25 => ?_)
      refine R_callV C (se_0 s60) (sc_0 s60 q _ _) rfl cf_Seat_knowsOfAll rfl ml_BT_179 im_Seat_knowsOfAll sl_Seat_Seat_knowsOfAll_Seat_knowsOfAll (c_Seat_knowsOfAll (gk C) s60 h25) (by decide) (by decide) rfl rfl (Nat.le_of_ble_eq_true rfl) d_BT_ends_158 ?_
      exact R_iret C rfl d_BT_ends_161
    · skip
      refine R_aload_n C 0 d_BT_ends_143 rfl rfl ?_
      refine gf_BT_asked C fl_BT_56 d_BT_ends_144 ?_
      refine R_iconst C d_BT_ends_147 (v := 0) (by decide +kernel) ?_
      refine R_bind (fun v26 h27 => ?_)
      refine R_callV C (se_0 s60) (sc_0 s60 q _ _) rfl cf_Seat_noise rfl ml_BT_124 im_Seat_noise sl_Seat_Seat_noise_Seat_noise (c_Seat_noise (gk C) s60 h27) (by decide) (by decide) rfl rfl (Nat.le_of_ble_eq_true rfl) d_BT_ends_148 ?_
      refine R_goto C d_BT_ends_151 (tgt := 161) (by decide) ?_
      exact R_iret C rfl d_BT_ends_161
  · skip
    refine R_iconst C d_BT_ends_9 (v := (-1)) (by decide +kernel) ?_
    exact R_iret C rfl d_BT_ends_10
theorem c_BT_ends {q : QT} (hg : GOk sdX q) {a1 : Int32} {μ : Mm} {ν : Ml} {o : Int32 × Mm} (ho : F_BT_ends a1 μ = some o) : Ct sdX q y_BT_ends prog_1_method_32_code 4 (some (FieldType.int)) 7 [.ref (q.2.2.1 0), .int a1] μ ν ((φIm ν) o).1 ((φIm ν) o).2.1 ((φIm ν) o).2.2 := Ct_of rfl hg (fun z C => w_BT_ends C) (Nat.le_of_ble_eq_true rfl) ho
