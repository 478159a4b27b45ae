/-! constructors of the small ones -/
theorem fs_X0 : ∀ j, j < 0 → defaultValue (tyX0 j) = vp_V [] j := fun j h => absurd h (Nat.not_lt_zero j)
theorem fs_X1 : ∀ j, j < 0 → defaultValue (tyX1 j) = vp_V [] j := fun j h => absurd h (Nat.not_lt_zero j)
theorem fs_X2 : ∀ j, j < 0 → defaultValue (tyX2 j) = vp_V [] j := fun j h => absurd h (Nat.not_lt_zero j)
theorem fs_X3 : ∀ j, j < 14 → defaultValue (tyX3 j) = vp_V [.null, .null, .int 0, .int 0, .int 0, .int 0, .int 0, .int 0, .int 0, .int 0, .int 0, .int 0, .int 0, .int 0] j := by decide +kernel
theorem fs_X4 : ∀ j, j < 3 → defaultValue (tyX4 j) = vp_V [.null, .null, .int 0] j := by decide +kernel
theorem fs_X5 : ∀ j, j < 18 → defaultValue (tyX5 j) = vp_V [.null, .int 0, .int 0, .int 0, .int 0, .int 0, .int 0, .int 0, .int 0, .null, .null, .null, .null, .null, .null, .null, .null, .null] j := by decide +kernel
theorem fs_X6 : ∀ j, j < 0 → defaultValue (tyX6 j) = vp_V [] j := fun j h => absurd h (Nat.not_lt_zero j)
theorem fs_X7 : ∀ j, j < 0 → defaultValue (tyX7 j) = vp_V [] j := fun j h => absurd h (Nat.not_lt_zero j)
theorem fs_X8 : ∀ j, j < 0 → defaultValue (tyX8 j) = vp_V [] j := fun j h => absurd h (Nat.not_lt_zero j)
theorem fs_X9 : ∀ j, j < 0 → defaultValue (tyX9 j) = vp_V [] j := fun j h => absurd h (Nat.not_lt_zero j)
theorem fs_X10 : ∀ j, j < 4 → defaultValue (tyX10 j) = vp_V [.null, .int 0, .int 0, .int 0] j := by decide +kernel
theorem fs_X11 : ∀ j, j < 10 → defaultValue (tyX11 j) = vp_V [.null, .null, .null, .int 0, .null, .null, .null, .null, .null, .null] j := by decide +kernel
theorem fs_X12 : ∀ j, j < 69 → defaultValue (tyX12 j) = vp_V [.int 0, .int 0, .int 0, .int 0, .null, .null, .null, .null, .null, .int 0, .int 0, .int 0, .int 0, .int 0, .null, .null, .null, .null, .null, .null, .null, .null, .int 0, .int 0, .int 0, .null, .null, .int 0, .int 0, .int 0, .int 0, .null, .null, .null, .int 0, .null, .null, .int 0, .int 0, .null, .null, .null, .null, .int 0, .int 0, .int 0, .int 0, .int 0, .int 0, .int 0, .int 0, .int 0, .null, .null, .null, .null, .null, .null, .null, .null, .null, .null, .null, .int 0, .null, .null, .null, .null, .null] j := by decide +kernel
theorem d_PK_init_0 : decode prog_3_method_1_code 0 = .ok (.aload_n 0, 1) := by decide +kernel
theorem d_PK_init_1 : decode prog_3_method_1_code 1 = .ok (.invokespecial 1, 3) := by decide +kernel
theorem d_PK_init_4 : decode prog_3_method_1_code 4 = .ok (.return_, 1) := by decide +kernel
set_option maxHeartbeats 4000000 in
set_option maxRecDepth 100000 in
theorem n_PK {l : Launch} {D : va_G} {cy : Nat → ClassId} {z : ZT} {A : Nat → Prop} {Q : State → Prop} {h : Nat} {ci : Nat} (C : CtX D cy z prog_3_method_1_code "BesideTom$PupilKind" 1 1 0 0 A) (hA : A = va_A [(h, .inr (ci, []))] z.1.2.2.2.heap.size) (hQ : Q = NQ D z 0 0 z.1.2.2.2.heap.size [(h, .inr (ci, []))] (fun _ => [(h, .inr (ci, []))])) : NW l D z 1 A Q 0 0 [(h, .inr (ci, []))] 0 [(0, .ref h)] [] := by
  refine N_aload_n C 0 d_PK_init_0 rfl rfl ?_
  refine N_obj C ml_PK_1 d_PK_init_1 (by decide) (Nat.le_of_ble_eq_true rfl) ?_
  exact N_ret C (fun _ => 0) [0] rfl (by decide) (by decide) (by decide) hA d_PK_init_4 hQ
set_option maxRecDepth 100000 in
theorem k_PK {l : Launch} {D : va_G} {cy : Nat → ClassId} {h : Nat} {ci : Nat} : Cn l D cy y_PK_init prog_3_method_1_code 1 1 0 0 [.ref h] [(h, .inr (ci, []))] (fun _ => [(h, .inr (ci, []))]) := Cn_of rfl rfl (fun z C => n_PK C rfl rfl) (Nat.le_of_ble_eq_true rfl)
theorem d_Talk_init_0 : decode prog_9_method_1_code 0 = .ok (.aload_n 0, 1) := by decide +kernel
theorem d_Talk_init_1 : decode prog_9_method_1_code 1 = .ok (.invokespecial 1, 3) := by decide +kernel
theorem d_Talk_init_4 : decode prog_9_method_1_code 4 = .ok (.return_, 1) := by decide +kernel
set_option maxHeartbeats 4000000 in
set_option maxRecDepth 100000 in
theorem n_Talk {l : Launch} {D : va_G} {cy : Nat → ClassId} {z : ZT} {A : Nat → Prop} {Q : State → Prop} {h : Nat} {ci : Nat} (C : CtX D cy z prog_9_method_1_code "BesideTom$TalkerKind" 1 2 0 0 A) (hA : A = va_A [(h, .inr (ci, []))] z.1.2.2.2.heap.size) (hQ : Q = NQ D z 0 0 z.1.2.2.2.heap.size [(h, .inr (ci, []))] (fun _ => [(h, .inr (ci, []))])) : NW l D z 1 A Q 0 0 [(h, .inr (ci, []))] 0 [(0, .ref h)] [] := by
  refine N_aload_n C 0 d_Talk_init_0 rfl rfl ?_
  refine N_callA C (wc := [(h, .inr (ci, []))]) (wr := []) cf_PK_init rfl (k_PK (ci := ci)) (Or.inr (C.2.2.2.2.2.2.2.1.2.2.2.1 ("BesideTom$TalkerKind", 1, y_PK_init) (by decide +kernel))) im_PK_init rfl [0] [] rfl rfl (by decide) (by decide) (by decide) (by decide) (by decide) (by decide) (by decide) rfl (Nat.le_of_ble_eq_true rfl) d_Talk_init_1 (fun a1 => ?_)
  refine N_ws (ws' := [(h, .inr (ci, []))]) rfl ?_
  exact N_ret C (fun _ => 0) [0] rfl (by decide) (by decide) (by decide) hA d_Talk_init_4 hQ
set_option maxRecDepth 100000 in
theorem k_Talk {l : Launch} {D : va_G} {cy : Nat → ClassId} {h : Nat} {ci : Nat} : Cn l D cy y_Talk_init prog_9_method_1_code 1 2 0 0 [.ref h] [(h, .inr (ci, []))] (fun _ => [(h, .inr (ci, []))]) := Cn_of rfl rfl (fun z C => n_Talk C rfl rfl) (Nat.le_of_ble_eq_true rfl)
theorem d_Quiet_init_0 : decode prog_4_method_1_code 0 = .ok (.aload_n 0, 1) := by decide +kernel
theorem d_Quiet_init_1 : decode prog_4_method_1_code 1 = .ok (.invokespecial 1, 3) := by decide +kernel
theorem d_Quiet_init_4 : decode prog_4_method_1_code 4 = .ok (.return_, 1) := by decide +kernel
set_option maxHeartbeats 4000000 in
set_option maxRecDepth 100000 in
theorem n_Quiet {l : Launch} {D : va_G} {cy : Nat → ClassId} {z : ZT} {A : Nat → Prop} {Q : State → Prop} {h : Nat} {ci : Nat} (C : CtX D cy z prog_4_method_1_code "BesideTom$QuietKind" 1 2 0 0 A) (hA : A = va_A [(h, .inr (ci, []))] z.1.2.2.2.heap.size) (hQ : Q = NQ D z 0 0 z.1.2.2.2.heap.size [(h, .inr (ci, []))] (fun _ => [(h, .inr (ci, []))])) : NW l D z 1 A Q 0 0 [(h, .inr (ci, []))] 0 [(0, .ref h)] [] := by
  refine N_aload_n C 0 d_Quiet_init_0 rfl rfl ?_
  refine N_callA C (wc := [(h, .inr (ci, []))]) (wr := []) cf_PK_init rfl (k_PK (ci := ci)) (Or.inr (C.2.2.2.2.2.2.2.1.2.2.2.1 ("BesideTom$QuietKind", 1, y_PK_init) (by decide +kernel))) im_PK_init rfl [0] [] rfl rfl (by decide) (by decide) (by decide) (by decide) (by decide) (by decide) (by decide) rfl (Nat.le_of_ble_eq_true rfl) d_Quiet_init_1 (fun a1 => ?_)
  refine N_ws (ws' := [(h, .inr (ci, []))]) rfl ?_
  exact N_ret C (fun _ => 0) [0] rfl (by decide) (by decide) (by decide) hA d_Quiet_init_4 hQ
set_option maxRecDepth 100000 in
theorem k_Quiet {l : Launch} {D : va_G} {cy : Nat → ClassId} {h : Nat} {ci : Nat} : Cn l D cy y_Quiet_init prog_4_method_1_code 1 2 0 0 [.ref h] [(h, .inr (ci, []))] (fun _ => [(h, .inr (ci, []))]) := Cn_of rfl rfl (fun z C => n_Quiet C rfl rfl) (Nat.le_of_ble_eq_true rfl)
theorem d_Short_init_0 : decode prog_8_method_1_code 0 = .ok (.aload_n 0, 1) := by decide +kernel
theorem d_Short_init_1 : decode prog_8_method_1_code 1 = .ok (.invokespecial 1, 3) := by decide +kernel
theorem d_Short_init_4 : decode prog_8_method_1_code 4 = .ok (.return_, 1) := by decide +kernel
set_option maxHeartbeats 4000000 in
set_option maxRecDepth 100000 in
theorem n_Short {l : Launch} {D : va_G} {cy : Nat → ClassId} {z : ZT} {A : Nat → Prop} {Q : State → Prop} {h : Nat} {ci : Nat} (C : CtX D cy z prog_8_method_1_code "BesideTom$ShortKind" 1 2 0 0 A) (hA : A = va_A [(h, .inr (ci, []))] z.1.2.2.2.heap.size) (hQ : Q = NQ D z 0 0 z.1.2.2.2.heap.size [(h, .inr (ci, []))] (fun _ => [(h, .inr (ci, []))])) : NW l D z 1 A Q 0 0 [(h, .inr (ci, []))] 0 [(0, .ref h)] [] := by
  refine N_aload_n C 0 d_Short_init_0 rfl rfl ?_
  refine N_callA C (wc := [(h, .inr (ci, []))]) (wr := []) cf_PK_init rfl (k_PK (ci := ci)) (Or.inr (C.2.2.2.2.2.2.2.1.2.2.2.1 ("BesideTom$ShortKind", 1, y_PK_init) (by decide +kernel))) im_PK_init rfl [0] [] rfl rfl (by decide) (by decide) (by decide) (by decide) (by decide) (by decide) (by decide) rfl (Nat.le_of_ble_eq_true rfl) d_Short_init_1 (fun a1 => ?_)
  refine N_ws (ws' := [(h, .inr (ci, []))]) rfl ?_
  exact N_ret C (fun _ => 0) [0] rfl (by decide) (by decide) (by decide) hA d_Short_init_4 hQ
set_option maxRecDepth 100000 in
theorem k_Short {l : Launch} {D : va_G} {cy : Nat → ClassId} {h : Nat} {ci : Nat} : Cn l D cy y_Short_init prog_8_method_1_code 1 2 0 0 [.ref h] [(h, .inr (ci, []))] (fun _ => [(h, .inr (ci, []))]) := Cn_of rfl rfl (fun z C => n_Short C rfl rfl) (Nat.le_of_ble_eq_true rfl)
theorem d_Tom_init_0 : decode prog_11_method_1_code 0 = .ok (.aload_n 0, 1) := by decide +kernel
theorem d_Tom_init_1 : decode prog_11_method_1_code 1 = .ok (.invokespecial 1, 3) := by decide +kernel
theorem d_Tom_init_4 : decode prog_11_method_1_code 4 = .ok (.return_, 1) := by decide +kernel
set_option maxHeartbeats 4000000 in
set_option maxRecDepth 100000 in
theorem n_Tom {l : Launch} {D : va_G} {cy : Nat → ClassId} {z : ZT} {A : Nat → Prop} {Q : State → Prop} {h : Nat} {ci : Nat} (C : CtX D cy z prog_11_method_1_code "BesideTom$TomKind" 1 3 0 0 A) (hA : A = va_A [(h, .inr (ci, []))] z.1.2.2.2.heap.size) (hQ : Q = NQ D z 0 0 z.1.2.2.2.heap.size [(h, .inr (ci, []))] (fun _ => [(h, .inr (ci, []))])) : NW l D z 1 A Q 0 0 [(h, .inr (ci, []))] 0 [(0, .ref h)] [] := by
  refine N_aload_n C 0 d_Tom_init_0 rfl rfl ?_
  refine N_callA C (wc := [(h, .inr (ci, []))]) (wr := []) cf_Talk_init rfl (k_Talk (ci := ci)) (Or.inr (C.2.2.2.2.2.2.2.1.2.2.2.1 ("BesideTom$TomKind", 1, y_Talk_init) (by decide +kernel))) im_Talk_init rfl [0] [] rfl rfl (by decide) (by decide) (by decide) (by decide) (by decide) (by decide) (by decide) rfl (Nat.le_of_ble_eq_true rfl) d_Tom_init_1 (fun a1 => ?_)
  refine N_ws (ws' := [(h, .inr (ci, []))]) rfl ?_
  exact N_ret C (fun _ => 0) [0] rfl (by decide) (by decide) (by decide) hA d_Tom_init_4 hQ
set_option maxRecDepth 100000 in
theorem k_Tom {l : Launch} {D : va_G} {cy : Nat → ClassId} {h : Nat} {ci : Nat} : Cn l D cy y_Tom_init prog_11_method_1_code 1 3 0 0 [.ref h] [(h, .inr (ci, []))] (fun _ => [(h, .inr (ci, []))]) := Cn_of rfl rfl (fun z C => n_Tom C rfl rfl) (Nat.le_of_ble_eq_true rfl)
theorem d_Cork_init_0 : decode prog_2_method_1_code 0 = .ok (.aload_n 0, 1) := by decide +kernel
theorem d_Cork_init_1 : decode prog_2_method_1_code 1 = .ok (.invokespecial 3, 3) := by decide +kernel
theorem d_Cork_init_4 : decode prog_2_method_1_code 4 = .ok (.return_, 1) := by decide +kernel
set_option maxHeartbeats 4000000 in
set_option maxRecDepth 100000 in
theorem n_Cork {l : Launch} {D : va_G} {cy : Nat → ClassId} {z : ZT} {A : Nat → Prop} {Q : State → Prop} {h : Nat} {ci : Nat} (C : CtX D cy z prog_2_method_1_code "BesideTom$CorkKind" 1 3 0 0 A) (hA : A = va_A [(h, .inr (ci, []))] z.1.2.2.2.heap.size) (hQ : Q = NQ D z 0 0 z.1.2.2.2.heap.size [(h, .inr (ci, []))] (fun _ => [(h, .inr (ci, []))])) : NW l D z 1 A Q 0 0 [(h, .inr (ci, []))] 0 [(0, .ref h)] [] := by
  refine N_aload_n C 0 d_Cork_init_0 rfl rfl ?_
  refine N_callA C (wc := [(h, .inr (ci, []))]) (wr := []) cf_Quiet_init rfl (k_Quiet (ci := ci)) (Or.inr (C.2.2.2.2.2.2.2.1.2.2.2.1 ("BesideTom$CorkKind", 3, y_Quiet_init) (by decide +kernel))) im_Quiet_init rfl [0] [] rfl rfl (by decide) (by decide) (by decide) (by decide) (by decide) (by decide) (by decide) rfl (Nat.le_of_ble_eq_true rfl) d_Cork_init_1 (fun a1 => ?_)
  refine N_ws (ws' := [(h, .inr (ci, []))]) rfl ?_
  exact N_ret C (fun _ => 0) [0] rfl (by decide) (by decide) (by decide) hA d_Cork_init_4 hQ
set_option maxRecDepth 100000 in
theorem k_Cork {l : Launch} {D : va_G} {cy : Nat → ClassId} {h : Nat} {ci : Nat} : Cn l D cy y_Cork_init prog_2_method_1_code 1 3 0 0 [.ref h] [(h, .inr (ci, []))] (fun _ => [(h, .inr (ci, []))]) := Cn_of rfl rfl (fun z C => n_Cork C rfl rfl) (Nat.le_of_ble_eq_true rfl)
theorem d_Told_init_0 : decode prog_10_method_1_code 0 = .ok (.aload_n 0, 1) := by decide +kernel
theorem d_Told_init_1 : decode prog_10_method_1_code 1 = .ok (.invokespecial 3, 3) := by decide +kernel
theorem d_Told_init_4 : decode prog_10_method_1_code 4 = .ok (.return_, 1) := by decide +kernel
set_option maxHeartbeats 4000000 in
set_option maxRecDepth 100000 in
theorem n_Told {l : Launch} {D : va_G} {cy : Nat → ClassId} {z : ZT} {A : Nat → Prop} {Q : State → Prop} {h : Nat} {ci : Nat} (C : CtX D cy z prog_10_method_1_code "BesideTom$ToldKind" 1 3 0 0 A) (hA : A = va_A [(h, .inr (ci, []))] z.1.2.2.2.heap.size) (hQ : Q = NQ D z 0 0 z.1.2.2.2.heap.size [(h, .inr (ci, []))] (fun _ => [(h, .inr (ci, []))])) : NW l D z 1 A Q 0 0 [(h, .inr (ci, []))] 0 [(0, .ref h)] [] := by
  refine N_aload_n C 0 d_Told_init_0 rfl rfl ?_
  refine N_callA C (wc := [(h, .inr (ci, []))]) (wr := []) cf_Short_init rfl (k_Short (ci := ci)) (Or.inr (C.2.2.2.2.2.2.2.1.2.2.2.1 ("BesideTom$ToldKind", 3, y_Short_init) (by decide +kernel))) im_Short_init rfl [0] [] rfl rfl (by decide) (by decide) (by decide) (by decide) (by decide) (by decide) (by decide) rfl (Nat.le_of_ble_eq_true rfl) d_Told_init_1 (fun a1 => ?_)
  refine N_ws (ws' := [(h, .inr (ci, []))]) rfl ?_
  exact N_ret C (fun _ => 0) [0] rfl (by decide) (by decide) (by decide) hA d_Told_init_4 hQ
set_option maxRecDepth 100000 in
theorem k_Told {l : Launch} {D : va_G} {cy : Nat → ClassId} {h : Nat} {ci : Nat} : Cn l D cy y_Told_init prog_10_method_1_code 1 3 0 0 [.ref h] [(h, .inr (ci, []))] (fun _ => [(h, .inr (ci, []))]) := Cn_of rfl rfl (fun z C => n_Told C rfl rfl) (Nat.le_of_ble_eq_true rfl)
theorem d_Rows_init_0 : decode prog_6_method_1_code 0 = .ok (.aload_n 0, 1) := by decide +kernel
theorem d_Rows_init_1 : decode prog_6_method_1_code 1 = .ok (.invokespecial 3, 3) := by decide +kernel
theorem d_Rows_init_4 : decode prog_6_method_1_code 4 = .ok (.aload_n 0, 1) := by decide +kernel
theorem d_Rows_init_5 : decode prog_6_method_1_code 5 = .ok (.iconst 0, 1) := by decide +kernel
theorem d_Rows_init_6 : decode prog_6_method_1_code 6 = .ok (.iload_n 1, 1) := by decide +kernel
theorem d_Rows_init_7 : decode prog_6_method_1_code 7 = .ok (.invokestatic 9, 3) := by decide +kernel
theorem d_Rows_init_10 : decode prog_6_method_1_code 10 = .ok (.newarray .int, 2) := by decide +kernel
theorem d_Rows_init_12 : decode prog_6_method_1_code 12 = .ok (.putfield 15, 3) := by decide +kernel
theorem d_Rows_init_15 : decode prog_6_method_1_code 15 = .ok (.aload_n 0, 1) := by decide +kernel
theorem d_Rows_init_16 : decode prog_6_method_1_code 16 = .ok (.iconst 0, 1) := by decide +kernel
theorem d_Rows_init_17 : decode prog_6_method_1_code 17 = .ok (.iload_n 1, 1) := by decide +kernel
theorem d_Rows_init_18 : decode prog_6_method_1_code 18 = .ok (.invokestatic 9, 3) := by decide +kernel
theorem d_Rows_init_21 : decode prog_6_method_1_code 21 = .ok (.newarray .int, 2) := by decide +kernel
theorem d_Rows_init_23 : decode prog_6_method_1_code 23 = .ok (.putfield 21, 3) := by decide +kernel
theorem d_Rows_init_26 : decode prog_6_method_1_code 26 = .ok (.return_, 1) := by decide +kernel
set_option maxHeartbeats 4000000 in
set_option maxRecDepth 100000 in
theorem n_Rows5 {l : Launch} {D : va_G} {cy : Nat → ClassId} {z : ZT} {A : Nat → Prop} {Q : State → Prop} {h : Nat}  (C : CtX D cy z prog_6_method_1_code "BesideTom$Rows" 2 1 2 10 A) (hA : A = va_A [(h, .inr (4, [.null, .null, .int 0]))] z.1.2.2.2.heap.size) (hQ : Q = NQ D z 2 10 z.1.2.2.2.heap.size [(h, .inr (4, [.null, .null, .int 0]))] (fun a => [(h, .inr (4, [.ref (a 0), .ref (a 1), .int 0])), ((a 0), .inl (cy 0, 5, .inl (fun _ => 0))), ((a 1), .inl (cy 0, 5, .inl (fun _ => 0)))])) : NW l D z 2 A Q 0 0 [(h, .inr (4, [.null, .null, .int 0]))] 0 [(0, .ref h), (1, .int 5)] [] := by
  refine N_aload_n C 0 d_Rows_init_0 rfl rfl ?_
  refine N_obj C ml_Rows_3 d_Rows_init_1 (by decide) (Nat.le_of_ble_eq_true rfl) ?_
  refine N_aload_n C 0 d_Rows_init_4 rfl rfl ?_
  refine N_iconst C (v := 0) d_Rows_init_5 (by decide) ?_
  refine N_iload_n C 1 d_Rows_init_6 rfl rfl ?_
  refine N_max C ml_Rows_9 (by decide) (by decide) d_Rows_init_7 (by decide) (Nat.le_of_ble_eq_true rfl) ?_
  refine N_newa C (ty := FieldType.int) (a0 := (5, .inl (fun _ => 0))) rfl (gT_1 39 _ rfl rfl) 0 rfl (fun _ _ => rfl) 5 (fun _ => rfl) (by decide) (by decide) (by decide) (by decide) (by decide) d_Rows_init_10 (fun q10 => ?_)
  refine N_ws (ws' := [(h, .inr (4, [.null, .null, .int 0])), (q10, .inl (cy 0, 5, .inl (fun _ => 0)))]) rfl ?_
  refine N_putF C in_X4 tyX4 ty_X4 nm_X4 0 rfl rfl 0 (by decide) fl_Rows_15 (fun _ _ h => h) rfl rfl (ty := tyX4 0) rfl (by first | rfl | decide) (by first | rfl | decide) (Nat.le_of_ble_eq_true rfl) d_Rows_init_12 ?_
  refine N_ws (ws' := [(h, .inr (4, [.ref q10, .null, .int 0])), (q10, .inl (cy 0, 5, .inl (fun _ => 0)))]) rfl ?_
  refine N_aload_n C 0 d_Rows_init_15 rfl rfl ?_
  refine N_iconst C (v := 0) d_Rows_init_16 (by decide) ?_
  refine N_iload_n C 1 d_Rows_init_17 rfl rfl ?_
  refine N_max C ml_Rows_9 (by decide) (by decide) d_Rows_init_18 (by decide) (Nat.le_of_ble_eq_true rfl) ?_
  refine N_newa C (ty := FieldType.int) (a0 := (5, .inl (fun _ => 0))) rfl (gT_1 39 _ rfl rfl) 0 rfl (fun _ _ => rfl) 5 (fun _ => rfl) (by decide) (by decide) (by decide) (by decide) (by decide) d_Rows_init_21 (fun q21 => ?_)
  refine N_ws (ws' := [(h, .inr (4, [.ref q10, .null, .int 0])), (q10, .inl (cy 0, 5, .inl (fun _ => 0))), (q21, .inl (cy 0, 5, .inl (fun _ => 0)))]) rfl ?_
  refine N_putF C in_X4 tyX4 ty_X4 nm_X4 0 rfl rfl 1 (by decide) fl_Rows_21 (fun _ _ h => h) rfl rfl (ty := tyX4 1) rfl (by first | rfl | decide) (by first | rfl | decide) (Nat.le_of_ble_eq_true rfl) d_Rows_init_23 ?_
  refine N_ws (ws' := [(h, .inr (4, [.ref q10, .ref q21, .int 0])), (q10, .inl (cy 0, 5, .inl (fun _ => 0))), (q21, .inl (cy 0, 5, .inl (fun _ => 0)))]) rfl ?_
  exact N_ret C (fun k => match k with | 0 => q10 | _ => q21) [0, 1, 2] rfl (by decide) (by decide) (by decide) hA d_Rows_init_26 hQ
set_option maxRecDepth 100000 in
theorem k_Rows5 {l : Launch} {D : va_G} {cy : Nat → ClassId} {h : Nat}  : Cn l D cy y_Rows_init prog_6_method_1_code 2 1 2 10 [.ref h, .int 5] [(h, .inr (4, [.null, .null, .int 0]))] (fun a => [(h, .inr (4, [.ref (a 0), .ref (a 1), .int 0])), ((a 0), .inl (cy 0, 5, .inl (fun _ => 0))), ((a 1), .inl (cy 0, 5, .inl (fun _ => 0)))]) := Cn_of rfl rfl (fun z C => n_Rows5 C rfl rfl) (Nat.le_of_ble_eq_true rfl)
set_option maxHeartbeats 4000000 in
set_option maxRecDepth 100000 in
theorem n_Rows10 {l : Launch} {D : va_G} {cy : Nat → ClassId} {z : ZT} {A : Nat → Prop} {Q : State → Prop} {h : Nat}  (C : CtX D cy z prog_6_method_1_code "BesideTom$Rows" 2 1 2 20 A) (hA : A = va_A [(h, .inr (4, [.null, .null, .int 0]))] z.1.2.2.2.heap.size) (hQ : Q = NQ D z 2 20 z.1.2.2.2.heap.size [(h, .inr (4, [.null, .null, .int 0]))] (fun a => [(h, .inr (4, [.ref (a 0), .ref (a 1), .int 0])), ((a 0), .inl (cy 0, 10, .inl (fun _ => 0))), ((a 1), .inl (cy 0, 10, .inl (fun _ => 0)))])) : NW l D z 2 A Q 0 0 [(h, .inr (4, [.null, .null, .int 0]))] 0 [(0, .ref h), (1, .int 10)] [] := by
  refine N_aload_n C 0 d_Rows_init_0 rfl rfl ?_
  refine N_obj C ml_Rows_3 d_Rows_init_1 (by decide) (Nat.le_of_ble_eq_true rfl) ?_
  refine N_aload_n C 0 d_Rows_init_4 rfl rfl ?_
  refine N_iconst C (v := 0) d_Rows_init_5 (by decide) ?_
  refine N_iload_n C 1 d_Rows_init_6 rfl rfl ?_
  refine N_max C ml_Rows_9 (by decide) (by decide) d_Rows_init_7 (by decide) (Nat.le_of_ble_eq_true rfl) ?_
  refine N_newa C (ty := FieldType.int) (a0 := (10, .inl (fun _ => 0))) rfl (gT_1 39 _ rfl rfl) 0 rfl (fun _ _ => rfl) 10 (fun _ => rfl) (by decide) (by decide) (by decide) (by decide) (by decide) d_Rows_init_10 (fun q10 => ?_)
  refine N_ws (ws' := [(h, .inr (4, [.null, .null, .int 0])), (q10, .inl (cy 0, 10, .inl (fun _ => 0)))]) rfl ?_
  refine N_putF C in_X4 tyX4 ty_X4 nm_X4 0 rfl rfl 0 (by decide) fl_Rows_15 (fun _ _ h => h) rfl rfl (ty := tyX4 0) rfl (by first | rfl | decide) (by first | rfl | decide) (Nat.le_of_ble_eq_true rfl) d_Rows_init_12 ?_
  refine N_ws (ws' := [(h, .inr (4, [.ref q10, .null, .int 0])), (q10, .inl (cy 0, 10, .inl (fun _ => 0)))]) rfl ?_
  refine N_aload_n C 0 d_Rows_init_15 rfl rfl ?_
  refine N_iconst C (v := 0) d_Rows_init_16 (by decide) ?_
  refine N_iload_n C 1 d_Rows_init_17 rfl rfl ?_
  refine N_max C ml_Rows_9 (by decide) (by decide) d_Rows_init_18 (by decide) (Nat.le_of_ble_eq_true rfl) ?_
  refine N_newa C (ty := FieldType.int) (a0 := (10, .inl (fun _ => 0))) rfl (gT_1 39 _ rfl rfl) 0 rfl (fun _ _ => rfl) 10 (fun _ => rfl) (by decide) (by decide) (by decide) (by decide) (by decide) d_Rows_init_21 (fun q21 => ?_)
  refine N_ws (ws' := [(h, .inr (4, [.ref q10, .null, .int 0])), (q10, .inl (cy 0, 10, .inl (fun _ => 0))), (q21, .inl (cy 0, 10, .inl (fun _ => 0)))]) rfl ?_
  refine N_putF C in_X4 tyX4 ty_X4 nm_X4 0 rfl rfl 1 (by decide) fl_Rows_21 (fun _ _ h => h) rfl rfl (ty := tyX4 1) rfl (by first | rfl | decide) (by first | rfl | decide) (Nat.le_of_ble_eq_true rfl) d_Rows_init_23 ?_
  refine N_ws (ws' := [(h, .inr (4, [.ref q10, .ref q21, .int 0])), (q10, .inl (cy 0, 10, .inl (fun _ => 0))), (q21, .inl (cy 0, 10, .inl (fun _ => 0)))]) rfl ?_
  exact N_ret C (fun k => match k with | 0 => q10 | _ => q21) [0, 1, 2] rfl (by decide) (by decide) (by decide) hA d_Rows_init_26 hQ
set_option maxRecDepth 100000 in
theorem k_Rows10 {l : Launch} {D : va_G} {cy : Nat → ClassId} {h : Nat}  : Cn l D cy y_Rows_init prog_6_method_1_code 2 1 2 20 [.ref h, .int 10] [(h, .inr (4, [.null, .null, .int 0]))] (fun a => [(h, .inr (4, [.ref (a 0), .ref (a 1), .int 0])), ((a 0), .inl (cy 0, 10, .inl (fun _ => 0))), ((a 1), .inl (cy 0, 10, .inl (fun _ => 0)))]) := Cn_of rfl rfl (fun z C => n_Rows10 C rfl rfl) (Nat.le_of_ble_eq_true rfl)
set_option maxHeartbeats 4000000 in
set_option maxRecDepth 100000 in
theorem n_Rows8 {l : Launch} {D : va_G} {cy : Nat → ClassId} {z : ZT} {A : Nat → Prop} {Q : State → Prop} {h : Nat}  (C : CtX D cy z prog_6_method_1_code "BesideTom$Rows" 2 1 2 16 A) (hA : A = va_A [(h, .inr (4, [.null, .null, .int 0]))] z.1.2.2.2.heap.size) (hQ : Q = NQ D z 2 16 z.1.2.2.2.heap.size [(h, .inr (4, [.null, .null, .int 0]))] (fun a => [(h, .inr (4, [.ref (a 0), .ref (a 1), .int 0])), ((a 0), .inl (cy 0, 8, .inl (fun _ => 0))), ((a 1), .inl (cy 0, 8, .inl (fun _ => 0)))])) : NW l D z 2 A Q 0 0 [(h, .inr (4, [.null, .null, .int 0]))] 0 [(0, .ref h), (1, .int 8)] [] := by
  refine N_aload_n C 0 d_Rows_init_0 rfl rfl ?_
  refine N_obj C ml_Rows_3 d_Rows_init_1 (by decide) (Nat.le_of_ble_eq_true rfl) ?_
  refine N_aload_n C 0 d_Rows_init_4 rfl rfl ?_
  refine N_iconst C (v := 0) d_Rows_init_5 (by decide) ?_
  refine N_iload_n C 1 d_Rows_init_6 rfl rfl ?_
  refine N_max C ml_Rows_9 (by decide) (by decide) d_Rows_init_7 (by decide) (Nat.le_of_ble_eq_true rfl) ?_
  refine N_newa C (ty := FieldType.int) (a0 := (8, .inl (fun _ => 0))) rfl (gT_1 39 _ rfl rfl) 0 rfl (fun _ _ => rfl) 8 (fun _ => rfl) (by decide) (by decide) (by decide) (by decide) (by decide) d_Rows_init_10 (fun q10 => ?_)
  refine N_ws (ws' := [(h, .inr (4, [.null, .null, .int 0])), (q10, .inl (cy 0, 8, .inl (fun _ => 0)))]) rfl ?_
  refine N_putF C in_X4 tyX4 ty_X4 nm_X4 0 rfl rfl 0 (by decide) fl_Rows_15 (fun _ _ h => h) rfl rfl (ty := tyX4 0) rfl (by first | rfl | decide) (by first | rfl | decide) (Nat.le_of_ble_eq_true rfl) d_Rows_init_12 ?_
  refine N_ws (ws' := [(h, .inr (4, [.ref q10, .null, .int 0])), (q10, .inl (cy 0, 8, .inl (fun _ => 0)))]) rfl ?_
  refine N_aload_n C 0 d_Rows_init_15 rfl rfl ?_
  refine N_iconst C (v := 0) d_Rows_init_16 (by decide) ?_
  refine N_iload_n C 1 d_Rows_init_17 rfl rfl ?_
  refine N_max C ml_Rows_9 (by decide) (by decide) d_Rows_init_18 (by decide) (Nat.le_of_ble_eq_true rfl) ?_
  refine N_newa C (ty := FieldType.int) (a0 := (8, .inl (fun _ => 0))) rfl (gT_1 39 _ rfl rfl) 0 rfl (fun _ _ => rfl) 8 (fun _ => rfl) (by decide) (by decide) (by decide) (by decide) (by decide) d_Rows_init_21 (fun q21 => ?_)
  refine N_ws (ws' := [(h, .inr (4, [.ref q10, .null, .int 0])), (q10, .inl (cy 0, 8, .inl (fun _ => 0))), (q21, .inl (cy 0, 8, .inl (fun _ => 0)))]) rfl ?_
  refine N_putF C in_X4 tyX4 ty_X4 nm_X4 0 rfl rfl 1 (by decide) fl_Rows_21 (fun _ _ h => h) rfl rfl (ty := tyX4 1) rfl (by first | rfl | decide) (by first | rfl | decide) (Nat.le_of_ble_eq_true rfl) d_Rows_init_23 ?_
  refine N_ws (ws' := [(h, .inr (4, [.ref q10, .ref q21, .int 0])), (q10, .inl (cy 0, 8, .inl (fun _ => 0))), (q21, .inl (cy 0, 8, .inl (fun _ => 0)))]) rfl ?_
  exact N_ret C (fun k => match k with | 0 => q10 | _ => q21) [0, 1, 2] rfl (by decide) (by decide) (by decide) hA d_Rows_init_26 hQ
set_option maxRecDepth 100000 in
theorem k_Rows8 {l : Launch} {D : va_G} {cy : Nat → ClassId} {h : Nat}  : Cn l D cy y_Rows_init prog_6_method_1_code 2 1 2 16 [.ref h, .int 8] [(h, .inr (4, [.null, .null, .int 0]))] (fun a => [(h, .inr (4, [.ref (a 0), .ref (a 1), .int 0])), ((a 0), .inl (cy 0, 8, .inl (fun _ => 0))), ((a 1), .inl (cy 0, 8, .inl (fun _ => 0)))]) := Cn_of rfl rfl (fun z C => n_Rows8 C rfl rfl) (Nat.le_of_ble_eq_true rfl)
theorem d_Trace_init_0 : decode prog_12_method_1_code 0 = .ok (.aload_n 0, 1) := by decide +kernel
theorem d_Trace_init_1 : decode prog_12_method_1_code 1 = .ok (.invokespecial 1, 3) := by decide +kernel
theorem d_Trace_init_4 : decode prog_12_method_1_code 4 = .ok (.aload_n 0, 1) := by decide +kernel
theorem d_Trace_init_5 : decode prog_12_method_1_code 5 = .ok (.bipush 20, 2) := by decide +kernel
theorem d_Trace_init_7 : decode prog_12_method_1_code 7 = .ok (.newarray .int, 2) := by decide +kernel
theorem d_Trace_init_9 : decode prog_12_method_1_code 9 = .ok (.putfield 9, 3) := by decide +kernel
theorem d_Trace_init_12 : decode prog_12_method_1_code 12 = .ok (.return_, 1) := by decide +kernel
set_option maxHeartbeats 4000000 in
set_option maxRecDepth 100000 in
theorem n_Trace {l : Launch} {D : va_G} {cy : Nat → ClassId} {z : ZT} {A : Nat → Prop} {Q : State → Prop} {h : Nat}  (C : CtX D cy z prog_12_method_1_code "BesideTom$Trace" 1 1 1 20 A) (hA : A = va_A [(h, .inr (10, [.null, .int 0, .int 0, .int 0]))] z.1.2.2.2.heap.size) (hQ : Q = NQ D z 1 20 z.1.2.2.2.heap.size [(h, .inr (10, [.null, .int 0, .int 0, .int 0]))] (fun a => [(h, .inr (10, [.ref (a 0), .int 0, .int 0, .int 0])), ((a 0), .inl (cy 0, 20, .inl (fun _ => 0)))])) : NW l D z 1 A Q 0 0 [(h, .inr (10, [.null, .int 0, .int 0, .int 0]))] 0 [(0, .ref h)] [] := by
  refine N_aload_n C 0 d_Trace_init_0 rfl rfl ?_
  refine N_obj C ml_Trace_1 d_Trace_init_1 (by decide) (Nat.le_of_ble_eq_true rfl) ?_
  refine N_aload_n C 0 d_Trace_init_4 rfl rfl ?_
  refine N_bipush C (v := 20) d_Trace_init_5 (by decide) ?_
  refine N_newa C (ty := FieldType.int) (a0 := (20, .inl (fun _ => 0))) rfl (gT_1 39 _ rfl rfl) 0 rfl (fun _ _ => rfl) 20 (fun _ => rfl) (by decide) (by decide) (by decide) (by decide) (by decide) d_Trace_init_7 (fun q7 => ?_)
  refine N_ws (ws' := [(h, .inr (10, [.null, .int 0, .int 0, .int 0])), (q7, .inl (cy 0, 20, .inl (fun _ => 0)))]) rfl ?_
  refine N_putF C in_X10 tyX10 ty_X10 nm_X10 0 rfl rfl 0 (by decide) fl_Trace_9 (fun _ _ h => h) rfl rfl (ty := tyX10 0) rfl (by first | rfl | decide) (by first | rfl | decide) (Nat.le_of_ble_eq_true rfl) d_Trace_init_9 ?_
  refine N_ws (ws' := [(h, .inr (10, [.ref q7, .int 0, .int 0, .int 0])), (q7, .inl (cy 0, 20, .inl (fun _ => 0)))]) rfl ?_
  exact N_ret C (fun k => match k with  | _ => q7) [0, 1] rfl (by decide) (by decide) (by decide) hA d_Trace_init_12 hQ
set_option maxRecDepth 100000 in
theorem k_Trace {l : Launch} {D : va_G} {cy : Nat → ClassId} {h : Nat}  : Cn l D cy y_Trace_init prog_12_method_1_code 1 1 1 20 [.ref h] [(h, .inr (10, [.null, .int 0, .int 0, .int 0]))] (fun a => [(h, .inr (10, [.ref (a 0), .int 0, .int 0, .int 0])), ((a 0), .inl (cy 0, 20, .inl (fun _ => 0)))]) := Cn_of rfl rfl (fun z C => n_Trace C rfl rfl) (Nat.le_of_ble_eq_true rfl)
theorem d_Rooms_init_0 : decode prog_5_method_1_code 0 = .ok (.aload_n 0, 1) := by decide +kernel
theorem d_Rooms_init_1 : decode prog_5_method_1_code 1 = .ok (.invokespecial 3, 3) := by decide +kernel
theorem d_Rooms_init_4 : decode prog_5_method_1_code 4 = .ok (.aload_n 0, 1) := by decide +kernel
theorem d_Rooms_init_5 : decode prog_5_method_1_code 5 = .ok (.bipush 7, 2) := by decide +kernel
theorem d_Rooms_init_7 : decode prog_5_method_1_code 7 = .ok (.bipush 100, 2) := by decide +kernel
theorem d_Rooms_init_9 : decode prog_5_method_1_code 9 = .ok (.multianewarray 11 2, 4) := by decide +kernel
theorem d_Rooms_init_13 : decode prog_5_method_1_code 13 = .ok (.putfield 13, 3) := by decide +kernel
theorem d_Rooms_init_16 : decode prog_5_method_1_code 16 = .ok (.aload_n 0, 1) := by decide +kernel
theorem d_Rooms_init_17 : decode prog_5_method_1_code 17 = .ok (.bipush 7, 2) := by decide +kernel
theorem d_Rooms_init_19 : decode prog_5_method_1_code 19 = .ok (.newarray .int, 2) := by decide +kernel
theorem d_Rooms_init_21 : decode prog_5_method_1_code 21 = .ok (.putfield 16, 3) := by decide +kernel
theorem d_Rooms_init_24 : decode prog_5_method_1_code 24 = .ok (.return_, 1) := by decide +kernel
set_option maxHeartbeats 4000000 in
set_option maxRecDepth 100000 in
theorem n_Rooms {l : Launch} {D : va_G} {cy : Nat → ClassId} {z : ZT} {A : Nat → Prop} {Q : State → Prop} {h : Nat}  (C : CtX D cy z prog_5_method_1_code "BesideTom$Rooms" 1 1 9 714 A) (hA : A = va_A [(h, .inr (3, [.null, .null, .int 0, .int 0, .int 0, .int 0, .int 0, .int 0, .int 0, .int 0, .int 0, .int 0, .int 0, .int 0]))] z.1.2.2.2.heap.size) (hQ : Q = NQ D z 9 714 z.1.2.2.2.heap.size [(h, .inr (3, [.null, .null, .int 0, .int 0, .int 0, .int 0, .int 0, .int 0, .int 0, .int 0, .int 0, .int 0, .int 0, .int 0]))] (fun a => [(h, .inr (3, [.ref (a 0), .ref (a 1), .int 0, .int 0, .int 0, .int 0, .int 0, .int 0, .int 0, .int 0, .int 0, .int 0, .int 0, .int 0])), ((a 0), .inl (cy 4, 7, .inr (.inr (.inr (.inr (fun j => some ((a 0) + 1 + j))))))), (((a 0) + 1), .inl (cy 1, 100, .inl (fun _ => 0))), (((a 0) + 2), .inl (cy 1, 100, .inl (fun _ => 0))), (((a 0) + 3), .inl (cy 1, 100, .inl (fun _ => 0))), (((a 0) + 4), .inl (cy 1, 100, .inl (fun _ => 0))), (((a 0) + 5), .inl (cy 1, 100, .inl (fun _ => 0))), (((a 0) + 6), .inl (cy 1, 100, .inl (fun _ => 0))), (((a 0) + 7), .inl (cy 1, 100, .inl (fun _ => 0))), ((a 1), .inl (cy 0, 7, .inl (fun _ => 0)))])) : NW l D z 1 A Q 0 0 [(h, .inr (3, [.null, .null, .int 0, .int 0, .int 0, .int 0, .int 0, .int 0, .int 0, .int 0, .int 0, .int 0, .int 0, .int 0]))] 0 [(0, .ref h)] [] := by
  refine N_aload_n C 0 d_Rooms_init_0 rfl rfl ?_
  refine N_obj C ml_Rooms_3 d_Rooms_init_1 (by decide) (Nat.le_of_ble_eq_true rfl) ?_
  refine N_aload_n C 0 d_Rooms_init_4 rfl rfl ?_
  refine N_bipush C (v := 7) d_Rooms_init_5 (by decide) ?_
  refine N_bipush C (v := 100) d_Rooms_init_7 (by decide) ?_
  refine N_multi C (t := FieldType.byte) (a0 := (100, .inl (fun _ => 0))) (gT_1 194 _ rfl rfl) C.2.2.2.2.2.2.2.1.1 4 1 rfl rfl (fun _ _ => rfl) rfl rfl 7 100 rfl (by decide) (by decide) (by decide) (by decide) (by decide) (by decide) (by decide) (by decide) (by decide) (by decide) d_Rooms_init_9 (fun q9 => ?_)
  refine N_ws (ws' := [(h, .inr (3, [.null, .null, .int 0, .int 0, .int 0, .int 0, .int 0, .int 0, .int 0, .int 0, .int 0, .int 0, .int 0, .int 0])), (q9, .inl (cy 4, 7, .inr (.inr (.inr (.inr (fun j => some (q9 + 1 + j))))))), ((q9 + 1), .inl (cy 1, 100, .inl (fun _ => 0))), ((q9 + 2), .inl (cy 1, 100, .inl (fun _ => 0))), ((q9 + 3), .inl (cy 1, 100, .inl (fun _ => 0))), ((q9 + 4), .inl (cy 1, 100, .inl (fun _ => 0))), ((q9 + 5), .inl (cy 1, 100, .inl (fun _ => 0))), ((q9 + 6), .inl (cy 1, 100, .inl (fun _ => 0))), ((q9 + 7), .inl (cy 1, 100, .inl (fun _ => 0)))]) rfl ?_
  refine N_putF C in_X3 tyX3 ty_X3 nm_X3 0 rfl rfl 0 (by decide) fl_Rooms_13 (fun _ _ h => h) rfl rfl (ty := tyX3 0) rfl (by first | rfl | decide) (by first | rfl | decide) (Nat.le_of_ble_eq_true rfl) d_Rooms_init_13 ?_
  refine N_ws (ws' := [(h, .inr (3, [.ref q9, .null, .int 0, .int 0, .int 0, .int 0, .int 0, .int 0, .int 0, .int 0, .int 0, .int 0, .int 0, .int 0])), (q9, .inl (cy 4, 7, .inr (.inr (.inr (.inr (fun j => some (q9 + 1 + j))))))), ((q9 + 1), .inl (cy 1, 100, .inl (fun _ => 0))), ((q9 + 2), .inl (cy 1, 100, .inl (fun _ => 0))), ((q9 + 3), .inl (cy 1, 100, .inl (fun _ => 0))), ((q9 + 4), .inl (cy 1, 100, .inl (fun _ => 0))), ((q9 + 5), .inl (cy 1, 100, .inl (fun _ => 0))), ((q9 + 6), .inl (cy 1, 100, .inl (fun _ => 0))), ((q9 + 7), .inl (cy 1, 100, .inl (fun _ => 0)))]) rfl ?_
  refine N_aload_n C 0 d_Rooms_init_16 rfl rfl ?_
  refine N_bipush C (v := 7) d_Rooms_init_17 (by decide) ?_
  refine N_newa C (ty := FieldType.int) (a0 := (7, .inl (fun _ => 0))) rfl (gT_1 39 _ rfl rfl) 0 rfl (fun _ _ => rfl) 7 (fun _ => rfl) (by decide) (by decide) (by decide) (by decide) (by decide) d_Rooms_init_19 (fun q19 => ?_)
  refine N_ws (ws' := [(h, .inr (3, [.ref q9, .null, .int 0, .int 0, .int 0, .int 0, .int 0, .int 0, .int 0, .int 0, .int 0, .int 0, .int 0, .int 0])), (q9, .inl (cy 4, 7, .inr (.inr (.inr (.inr (fun j => some (q9 + 1 + j))))))), ((q9 + 1), .inl (cy 1, 100, .inl (fun _ => 0))), ((q9 + 2), .inl (cy 1, 100, .inl (fun _ => 0))), ((q9 + 3), .inl (cy 1, 100, .inl (fun _ => 0))), ((q9 + 4), .inl (cy 1, 100, .inl (fun _ => 0))), ((q9 + 5), .inl (cy 1, 100, .inl (fun _ => 0))), ((q9 + 6), .inl (cy 1, 100, .inl (fun _ => 0))), ((q9 + 7), .inl (cy 1, 100, .inl (fun _ => 0))), (q19, .inl (cy 0, 7, .inl (fun _ => 0)))]) rfl ?_
  refine N_putF C in_X3 tyX3 ty_X3 nm_X3 0 rfl rfl 1 (by decide) fl_Rooms_16 (fun _ _ h => h) rfl rfl (ty := tyX3 1) rfl (by first | rfl | decide) (by first | rfl | decide) (Nat.le_of_ble_eq_true rfl) d_Rooms_init_21 ?_
  refine N_ws (ws' := [(h, .inr (3, [.ref q9, .ref q19, .int 0, .int 0, .int 0, .int 0, .int 0, .int 0, .int 0, .int 0, .int 0, .int 0, .int 0, .int 0])), (q9, .inl (cy 4, 7, .inr (.inr (.inr (.inr (fun j => some (q9 + 1 + j))))))), ((q9 + 1), .inl (cy 1, 100, .inl (fun _ => 0))), ((q9 + 2), .inl (cy 1, 100, .inl (fun _ => 0))), ((q9 + 3), .inl (cy 1, 100, .inl (fun _ => 0))), ((q9 + 4), .inl (cy 1, 100, .inl (fun _ => 0))), ((q9 + 5), .inl (cy 1, 100, .inl (fun _ => 0))), ((q9 + 6), .inl (cy 1, 100, .inl (fun _ => 0))), ((q9 + 7), .inl (cy 1, 100, .inl (fun _ => 0))), (q19, .inl (cy 0, 7, .inl (fun _ => 0)))]) rfl ?_
  exact N_ret C (fun k => match k with | 0 => q9 | _ => q19) [0, 1, 2, 3, 4, 5, 6, 7, 8, 9] rfl (by decide) (by decide) (by decide) hA d_Rooms_init_24 hQ
set_option maxRecDepth 100000 in
theorem k_Rooms {l : Launch} {D : va_G} {cy : Nat → ClassId} {h : Nat}  : Cn l D cy y_Rooms_init prog_5_method_1_code 1 1 9 714 [.ref h] [(h, .inr (3, [.null, .null, .int 0, .int 0, .int 0, .int 0, .int 0, .int 0, .int 0, .int 0, .int 0, .int 0, .int 0, .int 0]))] (fun a => [(h, .inr (3, [.ref (a 0), .ref (a 1), .int 0, .int 0, .int 0, .int 0, .int 0, .int 0, .int 0, .int 0, .int 0, .int 0, .int 0, .int 0])), ((a 0), .inl (cy 4, 7, .inr (.inr (.inr (.inr (fun j => some ((a 0) + 1 + j))))))), (((a 0) + 1), .inl (cy 1, 100, .inl (fun _ => 0))), (((a 0) + 2), .inl (cy 1, 100, .inl (fun _ => 0))), (((a 0) + 3), .inl (cy 1, 100, .inl (fun _ => 0))), (((a 0) + 4), .inl (cy 1, 100, .inl (fun _ => 0))), (((a 0) + 5), .inl (cy 1, 100, .inl (fun _ => 0))), (((a 0) + 6), .inl (cy 1, 100, .inl (fun _ => 0))), (((a 0) + 7), .inl (cy 1, 100, .inl (fun _ => 0))), ((a 1), .inl (cy 0, 7, .inl (fun _ => 0)))]) := Cn_of rfl rfl (fun z C => n_Rooms C rfl rfl) (Nat.le_of_ble_eq_true rfl)
theorem d_Seat_init_0 : decode prog_7_method_1_code 0 = .ok (.aload_n 0, 1) := by decide +kernel
theorem d_Seat_init_1 : decode prog_7_method_1_code 1 = .ok (.invokespecial 3, 3) := by decide +kernel
theorem d_Seat_init_4 : decode prog_7_method_1_code 4 = .ok (.aload_n 0, 1) := by decide +kernel
theorem d_Seat_init_5 : decode prog_7_method_1_code 5 = .ok (.iconst 3, 1) := by decide +kernel
theorem d_Seat_init_6 : decode prog_7_method_1_code 6 = .ok (.putfield 9, 3) := by decide +kernel
theorem d_Seat_init_9 : decode prog_7_method_1_code 9 = .ok (.aload_n 0, 1) := by decide +kernel
theorem d_Seat_init_10 : decode prog_7_method_1_code 10 = .ok (.iconst 4, 1) := by decide +kernel
theorem d_Seat_init_11 : decode prog_7_method_1_code 11 = .ok (.putfield 15, 3) := by decide +kernel
theorem d_Seat_init_14 : decode prog_7_method_1_code 14 = .ok (.aload_n 0, 1) := by decide +kernel
theorem d_Seat_init_15 : decode prog_7_method_1_code 15 = .ok (.iconst (-1), 1) := by decide +kernel
theorem d_Seat_init_16 : decode prog_7_method_1_code 16 = .ok (.putfield 18, 3) := by decide +kernel
theorem d_Seat_init_19 : decode prog_7_method_1_code 19 = .ok (.aload_n 0, 1) := by decide +kernel
theorem d_Seat_init_20 : decode prog_7_method_1_code 20 = .ok (.bipush 6, 2) := by decide +kernel
theorem d_Seat_init_22 : decode prog_7_method_1_code 22 = .ok (.newarray .int, 2) := by decide +kernel
theorem d_Seat_init_24 : decode prog_7_method_1_code 24 = .ok (.putfield 21, 3) := by decide +kernel
theorem d_Seat_init_27 : decode prog_7_method_1_code 27 = .ok (.aload_n 0, 1) := by decide +kernel
theorem d_Seat_init_28 : decode prog_7_method_1_code 28 = .ok (.bipush 6, 2) := by decide +kernel
theorem d_Seat_init_30 : decode prog_7_method_1_code 30 = .ok (.newarray .int, 2) := by decide +kernel
theorem d_Seat_init_32 : decode prog_7_method_1_code 32 = .ok (.putfield 25, 3) := by decide +kernel
theorem d_Seat_init_35 : decode prog_7_method_1_code 35 = .ok (.aload_n 0, 1) := by decide +kernel
theorem d_Seat_init_36 : decode prog_7_method_1_code 36 = .ok (.bipush 6, 2) := by decide +kernel
theorem d_Seat_init_38 : decode prog_7_method_1_code 38 = .ok (.newarray .int, 2) := by decide +kernel
theorem d_Seat_init_40 : decode prog_7_method_1_code 40 = .ok (.putfield 28, 3) := by decide +kernel
theorem d_Seat_init_43 : decode prog_7_method_1_code 43 = .ok (.aload_n 0, 1) := by decide +kernel
theorem d_Seat_init_44 : decode prog_7_method_1_code 44 = .ok (.bipush 6, 2) := by decide +kernel
theorem d_Seat_init_46 : decode prog_7_method_1_code 46 = .ok (.newarray .int, 2) := by decide +kernel
theorem d_Seat_init_48 : decode prog_7_method_1_code 48 = .ok (.putfield 31, 3) := by decide +kernel
theorem d_Seat_init_51 : decode prog_7_method_1_code 51 = .ok (.aload_n 0, 1) := by decide +kernel
theorem d_Seat_init_52 : decode prog_7_method_1_code 52 = .ok (.bipush 24, 2) := by decide +kernel
theorem d_Seat_init_54 : decode prog_7_method_1_code 54 = .ok (.newarray .int, 2) := by decide +kernel
theorem d_Seat_init_56 : decode prog_7_method_1_code 56 = .ok (.putfield 34, 3) := by decide +kernel
theorem d_Seat_init_59 : decode prog_7_method_1_code 59 = .ok (.aload_n 0, 1) := by decide +kernel
theorem d_Seat_init_60 : decode prog_7_method_1_code 60 = .ok (.bipush 36, 2) := by decide +kernel
theorem d_Seat_init_62 : decode prog_7_method_1_code 62 = .ok (.newarray .int, 2) := by decide +kernel
theorem d_Seat_init_64 : decode prog_7_method_1_code 64 = .ok (.putfield 37, 3) := by decide +kernel
theorem d_Seat_init_67 : decode prog_7_method_1_code 67 = .ok (.aload_n 0, 1) := by decide +kernel
theorem d_Seat_init_68 : decode prog_7_method_1_code 68 = .ok (.new 40, 3) := by decide +kernel
theorem d_Seat_init_71 : decode prog_7_method_1_code 71 = .ok (.dup, 1) := by decide +kernel
theorem d_Seat_init_72 : decode prog_7_method_1_code 72 = .ok (.iconst 5, 1) := by decide +kernel
theorem d_Seat_init_73 : decode prog_7_method_1_code 73 = .ok (.invokespecial 42, 3) := by decide +kernel
theorem d_Seat_init_76 : decode prog_7_method_1_code 76 = .ok (.putfield 45, 3) := by decide +kernel
theorem d_Seat_init_79 : decode prog_7_method_1_code 79 = .ok (.aload_n 0, 1) := by decide +kernel
theorem d_Seat_init_80 : decode prog_7_method_1_code 80 = .ok (.new 40, 3) := by decide +kernel
theorem d_Seat_init_83 : decode prog_7_method_1_code 83 = .ok (.dup, 1) := by decide +kernel
theorem d_Seat_init_84 : decode prog_7_method_1_code 84 = .ok (.bipush 10, 2) := by decide +kernel
theorem d_Seat_init_86 : decode prog_7_method_1_code 86 = .ok (.invokespecial 42, 3) := by decide +kernel
theorem d_Seat_init_89 : decode prog_7_method_1_code 89 = .ok (.putfield 49, 3) := by decide +kernel
theorem d_Seat_init_92 : decode prog_7_method_1_code 92 = .ok (.aload_n 0, 1) := by decide +kernel
theorem d_Seat_init_93 : decode prog_7_method_1_code 93 = .ok (.new 40, 3) := by decide +kernel
theorem d_Seat_init_96 : decode prog_7_method_1_code 96 = .ok (.dup, 1) := by decide +kernel
theorem d_Seat_init_97 : decode prog_7_method_1_code 97 = .ok (.bipush 8, 2) := by decide +kernel
theorem d_Seat_init_99 : decode prog_7_method_1_code 99 = .ok (.invokespecial 42, 3) := by decide +kernel
theorem d_Seat_init_102 : decode prog_7_method_1_code 102 = .ok (.putfield 52, 3) := by decide +kernel
theorem d_Seat_init_105 : decode prog_7_method_1_code 105 = .ok (.aload_n 0, 1) := by decide +kernel
theorem d_Seat_init_106 : decode prog_7_method_1_code 106 = .ok (.aload_n 1, 1) := by decide +kernel
theorem d_Seat_init_107 : decode prog_7_method_1_code 107 = .ok (.putfield 55, 3) := by decide +kernel
theorem d_Seat_init_110 : decode prog_7_method_1_code 110 = .ok (.return_, 1) := by decide +kernel
set_option maxHeartbeats 4000000 in
set_option maxRecDepth 100000 in
theorem n_Seat {l : Launch} {D : va_G} {cy : Nat → ClassId} {z : ZT} {A : Nat → Prop} {Q : State → Prop} {h : Nat} {kk : Nat} (C : CtX D cy z prog_7_method_1_code "BesideTom$Seating" 2 2 15 139 A) (hA : A = va_A [(h, .inr (5, [.null, .int 0, .int 0, .int 0, .int 0, .int 0, .int 0, .int 0, .int 0, .null, .null, .null, .null, .null, .null, .null, .null, .null]))] z.1.2.2.2.heap.size) (hQ : Q = NQ D z 15 139 z.1.2.2.2.heap.size [(h, .inr (5, [.null, .int 0, .int 0, .int 0, .int 0, .int 0, .int 0, .int 0, .int 0, .null, .null, .null, .null, .null, .null, .null, .null, .null]))] (fun a => [(h, .inr (5, [.ref kk, .int 0, .int 0, .int 0, .int 3, .int 4, .int (-1), .int 0, .int 0, .ref (a 0), .ref (a 1), .ref (a 2), .ref (a 3), .ref (a 4), .ref (a 5), .ref (a 6), .ref (a 9), .ref (a 12)])), ((a 0), .inl (cy 0, 6, .inl (fun _ => 0))), ((a 1), .inl (cy 0, 6, .inl (fun _ => 0))), ((a 2), .inl (cy 0, 6, .inl (fun _ => 0))), ((a 3), .inl (cy 0, 6, .inl (fun _ => 0))), ((a 4), .inl (cy 0, 24, .inl (fun _ => 0))), ((a 5), .inl (cy 0, 36, .inl (fun _ => 0))), ((a 6), .inr (4, [.ref (a 7), .ref (a 8), .int 0])), ((a 7), .inl (cy 0, 5, .inl (fun _ => 0))), ((a 8), .inl (cy 0, 5, .inl (fun _ => 0))), ((a 9), .inr (4, [.ref (a 10), .ref (a 11), .int 0])), ((a 10), .inl (cy 0, 10, .inl (fun _ => 0))), ((a 11), .inl (cy 0, 10, .inl (fun _ => 0))), ((a 12), .inr (4, [.ref (a 13), .ref (a 14), .int 0])), ((a 13), .inl (cy 0, 8, .inl (fun _ => 0))), ((a 14), .inl (cy 0, 8, .inl (fun _ => 0)))])) : NW l D z 2 A Q 0 0 [(h, .inr (5, [.null, .int 0, .int 0, .int 0, .int 0, .int 0, .int 0, .int 0, .int 0, .null, .null, .null, .null, .null, .null, .null, .null, .null]))] 0 [(0, .ref h), (1, .ref kk)] [] := by
  refine N_aload_n C 0 d_Seat_init_0 rfl rfl ?_
  refine N_obj C ml_Seat_3 d_Seat_init_1 (by decide) (Nat.le_of_ble_eq_true rfl) ?_
  refine N_aload_n C 0 d_Seat_init_4 rfl rfl ?_
  refine N_iconst C (v := 3) d_Seat_init_5 (by decide) ?_
  refine N_put C in_X5 tyX5 ty_X5 nm_X5 0 rfl rfl 4 (by decide) fl_Seat_9 (fun _ _ h => h) rfl (ty := tyX5 4) rfl (by first | rfl | decide) (by first | rfl | decide) (Nat.le_of_ble_eq_true rfl) d_Seat_init_6 ?_
  refine N_ws (ws' := [(h, .inr (5, [.null, .int 0, .int 0, .int 0, .int 3, .int 0, .int 0, .int 0, .int 0, .null, .null, .null, .null, .null, .null, .null, .null, .null]))]) rfl ?_
  refine N_aload_n C 0 d_Seat_init_9 rfl rfl ?_
  refine N_iconst C (v := 4) d_Seat_init_10 (by decide) ?_
  refine N_put C in_X5 tyX5 ty_X5 nm_X5 0 rfl rfl 5 (by decide) fl_Seat_15 (fun _ _ h => h) rfl (ty := tyX5 5) rfl (by first | rfl | decide) (by first | rfl | decide) (Nat.le_of_ble_eq_true rfl) d_Seat_init_11 ?_
  refine N_ws (ws' := [(h, .inr (5, [.null, .int 0, .int 0, .int 0, .int 3, .int 4, .int 0, .int 0, .int 0, .null, .null, .null, .null, .null, .null, .null, .null, .null]))]) rfl ?_
  refine N_aload_n C 0 d_Seat_init_14 rfl rfl ?_
  refine N_iconst C (v := (-1)) d_Seat_init_15 (by decide) ?_
  refine N_put C in_X5 tyX5 ty_X5 nm_X5 0 rfl rfl 6 (by decide) fl_Seat_18 (fun _ _ h => h) rfl (ty := tyX5 6) rfl (by first | rfl | decide) (by first | rfl | decide) (Nat.le_of_ble_eq_true rfl) d_Seat_init_16 ?_
  refine N_ws (ws' := [(h, .inr (5, [.null, .int 0, .int 0, .int 0, .int 3, .int 4, .int (-1), .int 0, .int 0, .null, .null, .null, .null, .null, .null, .null, .null, .null]))]) rfl ?_
  refine N_aload_n C 0 d_Seat_init_19 rfl rfl ?_
  refine N_bipush C (v := 6) d_Seat_init_20 (by decide) ?_
  refine N_newa C (ty := FieldType.int) (a0 := (6, .inl (fun _ => 0))) rfl (gT_1 39 _ rfl rfl) 0 rfl (fun _ _ => rfl) 6 (fun _ => rfl) (by decide) (by decide) (by decide) (by decide) (by decide) d_Seat_init_22 (fun q22 => ?_)
  refine N_ws (ws' := [(h, .inr (5, [.null, .int 0, .int 0, .int 0, .int 3, .int 4, .int (-1), .int 0, .int 0, .null, .null, .null, .null, .null, .null, .null, .null, .null])), (q22, .inl (cy 0, 6, .inl (fun _ => 0)))]) rfl ?_
  refine N_putF C in_X5 tyX5 ty_X5 nm_X5 0 rfl rfl 9 (by decide) fl_Seat_21 (fun _ _ h => h) rfl rfl (ty := tyX5 9) rfl (by first | rfl | decide) (by first | rfl | decide) (Nat.le_of_ble_eq_true rfl) d_Seat_init_24 ?_
  refine N_ws (ws' := [(h, .inr (5, [.null, .int 0, .int 0, .int 0, .int 3, .int 4, .int (-1), .int 0, .int 0, .ref q22, .null, .null, .null, .null, .null, .null, .null, .null])), (q22, .inl (cy 0, 6, .inl (fun _ => 0)))]) rfl ?_
  refine N_aload_n C 0 d_Seat_init_27 rfl rfl ?_
  refine N_bipush C (v := 6) d_Seat_init_28 (by decide) ?_
  refine N_newa C (ty := FieldType.int) (a0 := (6, .inl (fun _ => 0))) rfl (gT_1 39 _ rfl rfl) 0 rfl (fun _ _ => rfl) 6 (fun _ => rfl) (by decide) (by decide) (by decide) (by decide) (by decide) d_Seat_init_30 (fun q30 => ?_)
  refine N_ws (ws' := [(h, .inr (5, [.null, .int 0, .int 0, .int 0, .int 3, .int 4, .int (-1), .int 0, .int 0, .ref q22, .null, .null, .null, .null, .null, .null, .null, .null])), (q22, .inl (cy 0, 6, .inl (fun _ => 0))), (q30, .inl (cy 0, 6, .inl (fun _ => 0)))]) rfl ?_
  refine N_putF C in_X5 tyX5 ty_X5 nm_X5 0 rfl rfl 10 (by decide) fl_Seat_25 (fun _ _ h => h) rfl rfl (ty := tyX5 10) rfl (by first | rfl | decide) (by first | rfl | decide) (Nat.le_of_ble_eq_true rfl) d_Seat_init_32 ?_
  refine N_ws (ws' := [(h, .inr (5, [.null, .int 0, .int 0, .int 0, .int 3, .int 4, .int (-1), .int 0, .int 0, .ref q22, .ref q30, .null, .null, .null, .null, .null, .null, .null])), (q22, .inl (cy 0, 6, .inl (fun _ => 0))), (q30, .inl (cy 0, 6, .inl (fun _ => 0)))]) rfl ?_
  refine N_aload_n C 0 d_Seat_init_35 rfl rfl ?_
  refine N_bipush C (v := 6) d_Seat_init_36 (by decide) ?_
  refine N_newa C (ty := FieldType.int) (a0 := (6, .inl (fun _ => 0))) rfl (gT_1 39 _ rfl rfl) 0 rfl (fun _ _ => rfl) 6 (fun _ => rfl) (by decide) (by decide) (by decide) (by decide) (by decide) d_Seat_init_38 (fun q38 => ?_)
  refine N_ws (ws' := [(h, .inr (5, [.null, .int 0, .int 0, .int 0, .int 3, .int 4, .int (-1), .int 0, .int 0, .ref q22, .ref q30, .null, .null, .null, .null, .null, .null, .null])), (q22, .inl (cy 0, 6, .inl (fun _ => 0))), (q30, .inl (cy 0, 6, .inl (fun _ => 0))), (q38, .inl (cy 0, 6, .inl (fun _ => 0)))]) rfl ?_
  refine N_putF C in_X5 tyX5 ty_X5 nm_X5 0 rfl rfl 11 (by decide) fl_Seat_28 (fun _ _ h => h) rfl rfl (ty := tyX5 11) rfl (by first | rfl | decide) (by first | rfl | decide) (Nat.le_of_ble_eq_true rfl) d_Seat_init_40 ?_
  refine N_ws (ws' := [(h, .inr (5, [.null, .int 0, .int 0, .int 0, .int 3, .int 4, .int (-1), .int 0, .int 0, .ref q22, .ref q30, .ref q38, .null, .null, .null, .null, .null, .null])), (q22, .inl (cy 0, 6, .inl (fun _ => 0))), (q30, .inl (cy 0, 6, .inl (fun _ => 0))), (q38, .inl (cy 0, 6, .inl (fun _ => 0)))]) rfl ?_
  refine N_aload_n C 0 d_Seat_init_43 rfl rfl ?_
  refine N_bipush C (v := 6) d_Seat_init_44 (by decide) ?_
  refine N_newa C (ty := FieldType.int) (a0 := (6, .inl (fun _ => 0))) rfl (gT_1 39 _ rfl rfl) 0 rfl (fun _ _ => rfl) 6 (fun _ => rfl) (by decide) (by decide) (by decide) (by decide) (by decide) d_Seat_init_46 (fun q46 => ?_)
  refine N_ws (ws' := [(h, .inr (5, [.null, .int 0, .int 0, .int 0, .int 3, .int 4, .int (-1), .int 0, .int 0, .ref q22, .ref q30, .ref q38, .null, .null, .null, .null, .null, .null])), (q22, .inl (cy 0, 6, .inl (fun _ => 0))), (q30, .inl (cy 0, 6, .inl (fun _ => 0))), (q38, .inl (cy 0, 6, .inl (fun _ => 0))), (q46, .inl (cy 0, 6, .inl (fun _ => 0)))]) rfl ?_
  refine N_putF C in_X5 tyX5 ty_X5 nm_X5 0 rfl rfl 12 (by decide) fl_Seat_31 (fun _ _ h => h) rfl rfl (ty := tyX5 12) rfl (by first | rfl | decide) (by first | rfl | decide) (Nat.le_of_ble_eq_true rfl) d_Seat_init_48 ?_
  refine N_ws (ws' := [(h, .inr (5, [.null, .int 0, .int 0, .int 0, .int 3, .int 4, .int (-1), .int 0, .int 0, .ref q22, .ref q30, .ref q38, .ref q46, .null, .null, .null, .null, .null])), (q22, .inl (cy 0, 6, .inl (fun _ => 0))), (q30, .inl (cy 0, 6, .inl (fun _ => 0))), (q38, .inl (cy 0, 6, .inl (fun _ => 0))), (q46, .inl (cy 0, 6, .inl (fun _ => 0)))]) rfl ?_
  refine N_aload_n C 0 d_Seat_init_51 rfl rfl ?_
  refine N_bipush C (v := 24) d_Seat_init_52 (by decide) ?_
  refine N_newa C (ty := FieldType.int) (a0 := (24, .inl (fun _ => 0))) rfl (gT_1 39 _ rfl rfl) 0 rfl (fun _ _ => rfl) 24 (fun _ => rfl) (by decide) (by decide) (by decide) (by decide) (by decide) d_Seat_init_54 (fun q54 => ?_)
  refine N_ws (ws' := [(h, .inr (5, [.null, .int 0, .int 0, .int 0, .int 3, .int 4, .int (-1), .int 0, .int 0, .ref q22, .ref q30, .ref q38, .ref q46, .null, .null, .null, .null, .null])), (q22, .inl (cy 0, 6, .inl (fun _ => 0))), (q30, .inl (cy 0, 6, .inl (fun _ => 0))), (q38, .inl (cy 0, 6, .inl (fun _ => 0))), (q46, .inl (cy 0, 6, .inl (fun _ => 0))), (q54, .inl (cy 0, 24, .inl (fun _ => 0)))]) rfl ?_
  refine N_putF C in_X5 tyX5 ty_X5 nm_X5 0 rfl rfl 13 (by decide) fl_Seat_34 (fun _ _ h => h) rfl rfl (ty := tyX5 13) rfl (by first | rfl | decide) (by first | rfl | decide) (Nat.le_of_ble_eq_true rfl) d_Seat_init_56 ?_
  refine N_ws (ws' := [(h, .inr (5, [.null, .int 0, .int 0, .int 0, .int 3, .int 4, .int (-1), .int 0, .int 0, .ref q22, .ref q30, .ref q38, .ref q46, .ref q54, .null, .null, .null, .null])), (q22, .inl (cy 0, 6, .inl (fun _ => 0))), (q30, .inl (cy 0, 6, .inl (fun _ => 0))), (q38, .inl (cy 0, 6, .inl (fun _ => 0))), (q46, .inl (cy 0, 6, .inl (fun _ => 0))), (q54, .inl (cy 0, 24, .inl (fun _ => 0)))]) rfl ?_
  refine N_aload_n C 0 d_Seat_init_59 rfl rfl ?_
  refine N_bipush C (v := 36) d_Seat_init_60 (by decide) ?_
  refine N_newa C (ty := FieldType.int) (a0 := (36, .inl (fun _ => 0))) rfl (gT_1 39 _ rfl rfl) 0 rfl (fun _ _ => rfl) 36 (fun _ => rfl) (by decide) (by decide) (by decide) (by decide) (by decide) d_Seat_init_62 (fun q62 => ?_)
  refine N_ws (ws' := [(h, .inr (5, [.null, .int 0, .int 0, .int 0, .int 3, .int 4, .int (-1), .int 0, .int 0, .ref q22, .ref q30, .ref q38, .ref q46, .ref q54, .null, .null, .null, .null])), (q22, .inl (cy 0, 6, .inl (fun _ => 0))), (q30, .inl (cy 0, 6, .inl (fun _ => 0))), (q38, .inl (cy 0, 6, .inl (fun _ => 0))), (q46, .inl (cy 0, 6, .inl (fun _ => 0))), (q54, .inl (cy 0, 24, .inl (fun _ => 0))), (q62, .inl (cy 0, 36, .inl (fun _ => 0)))]) rfl ?_
  refine N_putF C in_X5 tyX5 ty_X5 nm_X5 0 rfl rfl 14 (by decide) fl_Seat_37 (fun _ _ h => h) rfl rfl (ty := tyX5 14) rfl (by first | rfl | decide) (by first | rfl | decide) (Nat.le_of_ble_eq_true rfl) d_Seat_init_64 ?_
  refine N_ws (ws' := [(h, .inr (5, [.null, .int 0, .int 0, .int 0, .int 3, .int 4, .int (-1), .int 0, .int 0, .ref q22, .ref q30, .ref q38, .ref q46, .ref q54, .ref q62, .null, .null, .null])), (q22, .inl (cy 0, 6, .inl (fun _ => 0))), (q30, .inl (cy 0, 6, .inl (fun _ => 0))), (q38, .inl (cy 0, 6, .inl (fun _ => 0))), (q46, .inl (cy 0, 6, .inl (fun _ => 0))), (q54, .inl (cy 0, 24, .inl (fun _ => 0))), (q62, .inl (cy 0, 36, .inl (fun _ => 0)))]) rfl ?_
  refine N_aload_n C 0 d_Seat_init_67 rfl rfl ?_
  refine N_new C (ci := 4) (fs := [.null, .null, .int 0]) in_X4 tyX4 ty_X4 (gT_1 89 _ rfl rfl) (gT_1 90 _ rfl rfl) in_Rows rfl (fs_X4) (by decide) (by decide) d_Seat_init_68 (fun q68 => ?_)
  refine N_ws (ws' := [(h, .inr (5, [.null, .int 0, .int 0, .int 0, .int 3, .int 4, .int (-1), .int 0, .int 0, .ref q22, .ref q30, .ref q38, .ref q46, .ref q54, .ref q62, .null, .null, .null])), (q22, .inl (cy 0, 6, .inl (fun _ => 0))), (q30, .inl (cy 0, 6, .inl (fun _ => 0))), (q38, .inl (cy 0, 6, .inl (fun _ => 0))), (q46, .inl (cy 0, 6, .inl (fun _ => 0))), (q54, .inl (cy 0, 24, .inl (fun _ => 0))), (q62, .inl (cy 0, 36, .inl (fun _ => 0))), (q68, .inr (4, [.null, .null, .int 0]))]) rfl ?_
  refine N_dup C d_Seat_init_71 rfl ?_
  refine N_iconst C (v := 5) d_Seat_init_72 (by decide) ?_
  refine N_callA C (wc := [(q68, .inr (4, [.null, .null, .int 0]))]) (wr := [(h, .inr (5, [.null, .int 0, .int 0, .int 0, .int 3, .int 4, .int (-1), .int 0, .int 0, .ref q22, .ref q30, .ref q38, .ref q46, .ref q54, .ref q62, .null, .null, .null])), (q22, .inl (cy 0, 6, .inl (fun _ => 0))), (q30, .inl (cy 0, 6, .inl (fun _ => 0))), (q38, .inl (cy 0, 6, .inl (fun _ => 0))), (q46, .inl (cy 0, 6, .inl (fun _ => 0))), (q54, .inl (cy 0, 24, .inl (fun _ => 0))), (q62, .inl (cy 0, 36, .inl (fun _ => 0)))]) cf_Rows_init rfl (k_Rows5) (Or.inl ml_Seat_42) im_Rows_init rfl [7] [0, 1, 2, 3, 4, 5, 6] rfl rfl (by decide) (by decide) (by decide) (by decide) (by decide) (by decide) (by decide) rfl (Nat.le_of_ble_eq_true rfl) d_Seat_init_73 (fun a73 => ?_)
  refine N_ws (ws' := [(h, .inr (5, [.null, .int 0, .int 0, .int 0, .int 3, .int 4, .int (-1), .int 0, .int 0, .ref q22, .ref q30, .ref q38, .ref q46, .ref q54, .ref q62, .null, .null, .null])), (q22, .inl (cy 0, 6, .inl (fun _ => 0))), (q30, .inl (cy 0, 6, .inl (fun _ => 0))), (q38, .inl (cy 0, 6, .inl (fun _ => 0))), (q46, .inl (cy 0, 6, .inl (fun _ => 0))), (q54, .inl (cy 0, 24, .inl (fun _ => 0))), (q62, .inl (cy 0, 36, .inl (fun _ => 0))), (q68, .inr (4, [.ref (a73 0), .ref (a73 1), .int 0])), ((a73 0), .inl (cy 0, 5, .inl (fun _ => 0))), ((a73 1), .inl (cy 0, 5, .inl (fun _ => 0)))]) rfl ?_
  refine N_putF C in_X5 tyX5 ty_X5 nm_X5 0 rfl rfl 15 (by decide) fl_Seat_45 (fun _ _ h => h) rfl rfl (ty := tyX5 15) rfl (by first | rfl | decide) (by first | rfl | decide) (Nat.le_of_ble_eq_true rfl) d_Seat_init_76 ?_
  refine N_ws (ws' := [(h, .inr (5, [.null, .int 0, .int 0, .int 0, .int 3, .int 4, .int (-1), .int 0, .int 0, .ref q22, .ref q30, .ref q38, .ref q46, .ref q54, .ref q62, .ref q68, .null, .null])), (q22, .inl (cy 0, 6, .inl (fun _ => 0))), (q30, .inl (cy 0, 6, .inl (fun _ => 0))), (q38, .inl (cy 0, 6, .inl (fun _ => 0))), (q46, .inl (cy 0, 6, .inl (fun _ => 0))), (q54, .inl (cy 0, 24, .inl (fun _ => 0))), (q62, .inl (cy 0, 36, .inl (fun _ => 0))), (q68, .inr (4, [.ref (a73 0), .ref (a73 1), .int 0])), ((a73 0), .inl (cy 0, 5, .inl (fun _ => 0))), ((a73 1), .inl (cy 0, 5, .inl (fun _ => 0)))]) rfl ?_
  refine N_aload_n C 0 d_Seat_init_79 rfl rfl ?_
  refine N_new C (ci := 4) (fs := [.null, .null, .int 0]) in_X4 tyX4 ty_X4 (gT_1 89 _ rfl rfl) (gT_1 90 _ rfl rfl) in_Rows rfl (fs_X4) (by decide) (by decide) d_Seat_init_80 (fun q80 => ?_)
  refine N_ws (ws' := [(h, .inr (5, [.null, .int 0, .int 0, .int 0, .int 3, .int 4, .int (-1), .int 0, .int 0, .ref q22, .ref q30, .ref q38, .ref q46, .ref q54, .ref q62, .ref q68, .null, .null])), (q22, .inl (cy 0, 6, .inl (fun _ => 0))), (q30, .inl (cy 0, 6, .inl (fun _ => 0))), (q38, .inl (cy 0, 6, .inl (fun _ => 0))), (q46, .inl (cy 0, 6, .inl (fun _ => 0))), (q54, .inl (cy 0, 24, .inl (fun _ => 0))), (q62, .inl (cy 0, 36, .inl (fun _ => 0))), (q68, .inr (4, [.ref (a73 0), .ref (a73 1), .int 0])), ((a73 0), .inl (cy 0, 5, .inl (fun _ => 0))), ((a73 1), .inl (cy 0, 5, .inl (fun _ => 0))), (q80, .inr (4, [.null, .null, .int 0]))]) rfl ?_
  refine N_dup C d_Seat_init_83 rfl ?_
  refine N_bipush C (v := 10) d_Seat_init_84 (by decide) ?_
  refine N_callA C (wc := [(q80, .inr (4, [.null, .null, .int 0]))]) (wr := [(h, .inr (5, [.null, .int 0, .int 0, .int 0, .int 3, .int 4, .int (-1), .int 0, .int 0, .ref q22, .ref q30, .ref q38, .ref q46, .ref q54, .ref q62, .ref q68, .null, .null])), (q22, .inl (cy 0, 6, .inl (fun _ => 0))), (q30, .inl (cy 0, 6, .inl (fun _ => 0))), (q38, .inl (cy 0, 6, .inl (fun _ => 0))), (q46, .inl (cy 0, 6, .inl (fun _ => 0))), (q54, .inl (cy 0, 24, .inl (fun _ => 0))), (q62, .inl (cy 0, 36, .inl (fun _ => 0))), (q68, .inr (4, [.ref (a73 0), .ref (a73 1), .int 0])), ((a73 0), .inl (cy 0, 5, .inl (fun _ => 0))), ((a73 1), .inl (cy 0, 5, .inl (fun _ => 0)))]) cf_Rows_init rfl (k_Rows10) (Or.inl ml_Seat_42) im_Rows_init rfl [10] [0, 1, 2, 3, 4, 5, 6, 7, 8, 9] rfl rfl (by decide) (by decide) (by decide) (by decide) (by decide) (by decide) (by decide) rfl (Nat.le_of_ble_eq_true rfl) d_Seat_init_86 (fun a86 => ?_)
  refine N_ws (ws' := [(h, .inr (5, [.null, .int 0, .int 0, .int 0, .int 3, .int 4, .int (-1), .int 0, .int 0, .ref q22, .ref q30, .ref q38, .ref q46, .ref q54, .ref q62, .ref q68, .null, .null])), (q22, .inl (cy 0, 6, .inl (fun _ => 0))), (q30, .inl (cy 0, 6, .inl (fun _ => 0))), (q38, .inl (cy 0, 6, .inl (fun _ => 0))), (q46, .inl (cy 0, 6, .inl (fun _ => 0))), (q54, .inl (cy 0, 24, .inl (fun _ => 0))), (q62, .inl (cy 0, 36, .inl (fun _ => 0))), (q68, .inr (4, [.ref (a73 0), .ref (a73 1), .int 0])), ((a73 0), .inl (cy 0, 5, .inl (fun _ => 0))), ((a73 1), .inl (cy 0, 5, .inl (fun _ => 0))), (q80, .inr (4, [.ref (a86 0), .ref (a86 1), .int 0])), ((a86 0), .inl (cy 0, 10, .inl (fun _ => 0))), ((a86 1), .inl (cy 0, 10, .inl (fun _ => 0)))]) rfl ?_
  refine N_putF C in_X5 tyX5 ty_X5 nm_X5 0 rfl rfl 16 (by decide) fl_Seat_49 (fun _ _ h => h) rfl rfl (ty := tyX5 16) rfl (by first | rfl | decide) (by first | rfl | decide) (Nat.le_of_ble_eq_true rfl) d_Seat_init_89 ?_
  refine N_ws (ws' := [(h, .inr (5, [.null, .int 0, .int 0, .int 0, .int 3, .int 4, .int (-1), .int 0, .int 0, .ref q22, .ref q30, .ref q38, .ref q46, .ref q54, .ref q62, .ref q68, .ref q80, .null])), (q22, .inl (cy 0, 6, .inl (fun _ => 0))), (q30, .inl (cy 0, 6, .inl (fun _ => 0))), (q38, .inl (cy 0, 6, .inl (fun _ => 0))), (q46, .inl (cy 0, 6, .inl (fun _ => 0))), (q54, .inl (cy 0, 24, .inl (fun _ => 0))), (q62, .inl (cy 0, 36, .inl (fun _ => 0))), (q68, .inr (4, [.ref (a73 0), .ref (a73 1), .int 0])), ((a73 0), .inl (cy 0, 5, .inl (fun _ => 0))), ((a73 1), .inl (cy 0, 5, .inl (fun _ => 0))), (q80, .inr (4, [.ref (a86 0), .ref (a86 1), .int 0])), ((a86 0), .inl (cy 0, 10, .inl (fun _ => 0))), ((a86 1), .inl (cy 0, 10, .inl (fun _ => 0)))]) rfl ?_
  refine N_aload_n C 0 d_Seat_init_92 rfl rfl ?_
  refine N_new C (ci := 4) (fs := [.null, .null, .int 0]) in_X4 tyX4 ty_X4 (gT_1 89 _ rfl rfl) (gT_1 90 _ rfl rfl) in_Rows rfl (fs_X4) (by decide) (by decide) d_Seat_init_93 (fun q93 => ?_)
  refine N_ws (ws' := [(h, .inr (5, [.null, .int 0, .int 0, .int 0, .int 3, .int 4, .int (-1), .int 0, .int 0, .ref q22, .ref q30, .ref q38, .ref q46, .ref q54, .ref q62, .ref q68, .ref q80, .null])), (q22, .inl (cy 0, 6, .inl (fun _ => 0))), (q30, .inl (cy 0, 6, .inl (fun _ => 0))), (q38, .inl (cy 0, 6, .inl (fun _ => 0))), (q46, .inl (cy 0, 6, .inl (fun _ => 0))), (q54, .inl (cy 0, 24, .inl (fun _ => 0))), (q62, .inl (cy 0, 36, .inl (fun _ => 0))), (q68, .inr (4, [.ref (a73 0), .ref (a73 1), .int 0])), ((a73 0), .inl (cy 0, 5, .inl (fun _ => 0))), ((a73 1), .inl (cy 0, 5, .inl (fun _ => 0))), (q80, .inr (4, [.ref (a86 0), .ref (a86 1), .int 0])), ((a86 0), .inl (cy 0, 10, .inl (fun _ => 0))), ((a86 1), .inl (cy 0, 10, .inl (fun _ => 0))), (q93, .inr (4, [.null, .null, .int 0]))]) rfl ?_
  refine N_dup C d_Seat_init_96 rfl ?_
  refine N_bipush C (v := 8) d_Seat_init_97 (by decide) ?_
  refine N_callA C (wc := [(q93, .inr (4, [.null, .null, .int 0]))]) (wr := [(h, .inr (5, [.null, .int 0, .int 0, .int 0, .int 3, .int 4, .int (-1), .int 0, .int 0, .ref q22, .ref q30, .ref q38, .ref q46, .ref q54, .ref q62, .ref q68, .ref q80, .null])), (q22, .inl (cy 0, 6, .inl (fun _ => 0))), (q30, .inl (cy 0, 6, .inl (fun _ => 0))), (q38, .inl (cy 0, 6, .inl (fun _ => 0))), (q46, .inl (cy 0, 6, .inl (fun _ => 0))), (q54, .inl (cy 0, 24, .inl (fun _ => 0))), (q62, .inl (cy 0, 36, .inl (fun _ => 0))), (q68, .inr (4, [.ref (a73 0), .ref (a73 1), .int 0])), ((a73 0), .inl (cy 0, 5, .inl (fun _ => 0))), ((a73 1), .inl (cy 0, 5, .inl (fun _ => 0))), (q80, .inr (4, [.ref (a86 0), .ref (a86 1), .int 0])), ((a86 0), .inl (cy 0, 10, .inl (fun _ => 0))), ((a86 1), .inl (cy 0, 10, .inl (fun _ => 0)))]) cf_Rows_init rfl (k_Rows8) (Or.inl ml_Seat_42) im_Rows_init rfl [13] [0, 1, 2, 3, 4, 5, 6, 7, 8, 9, 10, 11, 12] rfl rfl (by decide) (by decide) (by decide) (by decide) (by decide) (by decide) (by decide) rfl (Nat.le_of_ble_eq_true rfl) d_Seat_init_99 (fun a99 => ?_)
  refine N_ws (ws' := [(h, .inr (5, [.null, .int 0, .int 0, .int 0, .int 3, .int 4, .int (-1), .int 0, .int 0, .ref q22, .ref q30, .ref q38, .ref q46, .ref q54, .ref q62, .ref q68, .ref q80, .null])), (q22, .inl (cy 0, 6, .inl (fun _ => 0))), (q30, .inl (cy 0, 6, .inl (fun _ => 0))), (q38, .inl (cy 0, 6, .inl (fun _ => 0))), (q46, .inl (cy 0, 6, .inl (fun _ => 0))), (q54, .inl (cy 0, 24, .inl (fun _ => 0))), (q62, .inl (cy 0, 36, .inl (fun _ => 0))), (q68, .inr (4, [.ref (a73 0), .ref (a73 1), .int 0])), ((a73 0), .inl (cy 0, 5, .inl (fun _ => 0))), ((a73 1), .inl (cy 0, 5, .inl (fun _ => 0))), (q80, .inr (4, [.ref (a86 0), .ref (a86 1), .int 0])), ((a86 0), .inl (cy 0, 10, .inl (fun _ => 0))), ((a86 1), .inl (cy 0, 10, .inl (fun _ => 0))), (q93, .inr (4, [.ref (a99 0), .ref (a99 1), .int 0])), ((a99 0), .inl (cy 0, 8, .inl (fun _ => 0))), ((a99 1), .inl (cy 0, 8, .inl (fun _ => 0)))]) rfl ?_
  refine N_putF C in_X5 tyX5 ty_X5 nm_X5 0 rfl rfl 17 (by decide) fl_Seat_52 (fun _ _ h => h) rfl rfl (ty := tyX5 17) rfl (by first | rfl | decide) (by first | rfl | decide) (Nat.le_of_ble_eq_true rfl) d_Seat_init_102 ?_
  refine N_ws (ws' := [(h, .inr (5, [.null, .int 0, .int 0, .int 0, .int 3, .int 4, .int (-1), .int 0, .int 0, .ref q22, .ref q30, .ref q38, .ref q46, .ref q54, .ref q62, .ref q68, .ref q80, .ref q93])), (q22, .inl (cy 0, 6, .inl (fun _ => 0))), (q30, .inl (cy 0, 6, .inl (fun _ => 0))), (q38, .inl (cy 0, 6, .inl (fun _ => 0))), (q46, .inl (cy 0, 6, .inl (fun _ => 0))), (q54, .inl (cy 0, 24, .inl (fun _ => 0))), (q62, .inl (cy 0, 36, .inl (fun _ => 0))), (q68, .inr (4, [.ref (a73 0), .ref (a73 1), .int 0])), ((a73 0), .inl (cy 0, 5, .inl (fun _ => 0))), ((a73 1), .inl (cy 0, 5, .inl (fun _ => 0))), (q80, .inr (4, [.ref (a86 0), .ref (a86 1), .int 0])), ((a86 0), .inl (cy 0, 10, .inl (fun _ => 0))), ((a86 1), .inl (cy 0, 10, .inl (fun _ => 0))), (q93, .inr (4, [.ref (a99 0), .ref (a99 1), .int 0])), ((a99 0), .inl (cy 0, 8, .inl (fun _ => 0))), ((a99 1), .inl (cy 0, 8, .inl (fun _ => 0)))]) rfl ?_
  refine N_aload_n C 0 d_Seat_init_105 rfl rfl ?_
  refine N_aload_n C 1 d_Seat_init_106 rfl rfl ?_
  refine N_putF C in_X5 tyX5 ty_X5 nm_X5 0 rfl rfl 0 (by decide) fl_Seat_55 (fun _ _ h => h) rfl rfl (ty := tyX5 0) rfl (by first | rfl | decide) (by first | rfl | decide) (Nat.le_of_ble_eq_true rfl) d_Seat_init_107 ?_
  refine N_ws (ws' := [(h, .inr (5, [.ref kk, .int 0, .int 0, .int 0, .int 3, .int 4, .int (-1), .int 0, .int 0, .ref q22, .ref q30, .ref q38, .ref q46, .ref q54, .ref q62, .ref q68, .ref q80, .ref q93])), (q22, .inl (cy 0, 6, .inl (fun _ => 0))), (q30, .inl (cy 0, 6, .inl (fun _ => 0))), (q38, .inl (cy 0, 6, .inl (fun _ => 0))), (q46, .inl (cy 0, 6, .inl (fun _ => 0))), (q54, .inl (cy 0, 24, .inl (fun _ => 0))), (q62, .inl (cy 0, 36, .inl (fun _ => 0))), (q68, .inr (4, [.ref (a73 0), .ref (a73 1), .int 0])), ((a73 0), .inl (cy 0, 5, .inl (fun _ => 0))), ((a73 1), .inl (cy 0, 5, .inl (fun _ => 0))), (q80, .inr (4, [.ref (a86 0), .ref (a86 1), .int 0])), ((a86 0), .inl (cy 0, 10, .inl (fun _ => 0))), ((a86 1), .inl (cy 0, 10, .inl (fun _ => 0))), (q93, .inr (4, [.ref (a99 0), .ref (a99 1), .int 0])), ((a99 0), .inl (cy 0, 8, .inl (fun _ => 0))), ((a99 1), .inl (cy 0, 8, .inl (fun _ => 0)))]) rfl ?_
  exact N_ret C (fun k => match k with | 0 => q22 | 1 => q30 | 2 => q38 | 3 => q46 | 4 => q54 | 5 => q62 | 6 => q68 | 7 => (a73 0) | 8 => (a73 1) | 9 => q80 | 10 => (a86 0) | 11 => (a86 1) | 12 => q93 | 13 => (a99 0) | _ => (a99 1)) [0, 1, 2, 3, 4, 5, 6, 7, 8, 9, 10, 11, 12, 13, 14, 15] rfl (by decide) (by decide) (by decide) hA d_Seat_init_110 hQ
set_option maxRecDepth 100000 in
theorem k_Seat {l : Launch} {D : va_G} {cy : Nat → ClassId} {h : Nat} {kk : Nat} : Cn l D cy y_Seat_init prog_7_method_1_code 2 2 15 139 [.ref h, .ref kk] [(h, .inr (5, [.null, .int 0, .int 0, .int 0, .int 0, .int 0, .int 0, .int 0, .int 0, .null, .null, .null, .null, .null, .null, .null, .null, .null]))] (fun a => [(h, .inr (5, [.ref kk, .int 0, .int 0, .int 0, .int 3, .int 4, .int (-1), .int 0, .int 0, .ref (a 0), .ref (a 1), .ref (a 2), .ref (a 3), .ref (a 4), .ref (a 5), .ref (a 6), .ref (a 9), .ref (a 12)])), ((a 0), .inl (cy 0, 6, .inl (fun _ => 0))), ((a 1), .inl (cy 0, 6, .inl (fun _ => 0))), ((a 2), .inl (cy 0, 6, .inl (fun _ => 0))), ((a 3), .inl (cy 0, 6, .inl (fun _ => 0))), ((a 4), .inl (cy 0, 24, .inl (fun _ => 0))), ((a 5), .inl (cy 0, 36, .inl (fun _ => 0))), ((a 6), .inr (4, [.ref (a 7), .ref (a 8), .int 0])), ((a 7), .inl (cy 0, 5, .inl (fun _ => 0))), ((a 8), .inl (cy 0, 5, .inl (fun _ => 0))), ((a 9), .inr (4, [.ref (a 10), .ref (a 11), .int 0])), ((a 10), .inl (cy 0, 10, .inl (fun _ => 0))), ((a 11), .inl (cy 0, 10, .inl (fun _ => 0))), ((a 12), .inr (4, [.ref (a 13), .ref (a 14), .int 0])), ((a 13), .inl (cy 0, 8, .inl (fun _ => 0))), ((a 14), .inl (cy 0, 8, .inl (fun _ => 0)))]) := Cn_of rfl rfl (fun z C => n_Seat C rfl rfl) (Nat.le_of_ble_eq_true rfl)
