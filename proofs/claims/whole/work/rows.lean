section
-- ===== PART A: goes FIRST, ahead of the names: the tables' words, and 'selects' of the private methods out of them =====
/-- a private method of a class that the tables say can be made, by its rows of tables_1 -/
def lw_okq (q : MethodName × Nat) : Prop := (q.1.cls ≠ "java/lang/invoke/MethodHandle" ∧ q.1.cls ≠ "java/lang/invoke/VarHandle") ∧ Cond.instantiable q.1.cls q.2 ∈ tables_1 ∧ Cond.privateMethod q.1 ∈ tables_1 ∧ Cond.instanceMethod q.1 ∈ tables_1
theorem lw_p0 : lw_okq (⟨"BesideTom$Rooms", "begins", "(ILBesideTom$Seating;II)V"⟩, 14) := ⟨⟨by decide +kernel, by decide +kernel⟩, List.mem_of_getElem? (i := 189) (by decide +kernel), List.mem_of_getElem? (i := 327) (by decide +kernel), List.mem_of_getElem? (i := 328) (by decide +kernel)⟩
theorem lw_p1 : lw_okq (⟨"BesideTom$Rooms", "steps", "()V"⟩, 14) := ⟨⟨by decide +kernel, by decide +kernel⟩, List.mem_of_getElem? (i := 189) (by decide +kernel), List.mem_of_getElem? (i := 331) (by decide +kernel), List.mem_of_getElem? (i := 332) (by decide +kernel)⟩
theorem lw_p2 : lw_okq (⟨"BesideTom$Rooms", "clause", "()V"⟩, 14) := ⟨⟨by decide +kernel, by decide +kernel⟩, List.mem_of_getElem? (i := 189) (by decide +kernel), List.mem_of_getElem? (i := 335) (by decide +kernel), List.mem_of_getElem? (i := 336) (by decide +kernel)⟩
theorem lw_p3 : lw_okq (⟨"BesideTom$Rooms", "word", "()I"⟩, 14) := ⟨⟨by decide +kernel, by decide +kernel⟩, List.mem_of_getElem? (i := 189) (by decide +kernel), List.mem_of_getElem? (i := 339) (by decide +kernel), List.mem_of_getElem? (i := 340) (by decide +kernel)⟩
theorem lw_p4 : lw_okq (⟨"BesideTom$Rooms", "fails", "()V"⟩, 14) := ⟨⟨by decide +kernel, by decide +kernel⟩, List.mem_of_getElem? (i := 189) (by decide +kernel), List.mem_of_getElem? (i := 384) (by decide +kernel), List.mem_of_getElem? (i := 385) (by decide +kernel)⟩
theorem lw_p5 : lw_okq (⟨"BesideTom$Rooms", "expects", "(C)V"⟩, 14) := ⟨⟨by decide +kernel, by decide +kernel⟩, List.mem_of_getElem? (i := 189) (by decide +kernel), List.mem_of_getElem? (i := 388) (by decide +kernel), List.mem_of_getElem? (i := 389) (by decide +kernel)⟩
theorem lw_p6 : lw_okq (⟨"BesideTom$Rooms", "number", "()I"⟩, 14) := ⟨⟨by decide +kernel, by decide +kernel⟩, List.mem_of_getElem? (i := 189) (by decide +kernel), List.mem_of_getElem? (i := 392) (by decide +kernel), List.mem_of_getElem? (i := 393) (by decide +kernel)⟩
theorem lw_p7 : lw_okq (⟨"BesideTom$Rooms", "isDigit", "()Z"⟩, 14) := ⟨⟨by decide +kernel, by decide +kernel⟩, List.mem_of_getElem? (i := 189) (by decide +kernel), List.mem_of_getElem? (i := 396) (by decide +kernel), List.mem_of_getElem? (i := 397) (by decide +kernel)⟩
theorem lw_p8 : lw_okq (⟨"BesideTom$Rooms", "either", "(I)Z"⟩, 14) := ⟨⟨by decide +kernel, by decide +kernel⟩, List.mem_of_getElem? (i := 189) (by decide +kernel), List.mem_of_getElem? (i := 401) (by decide +kernel), List.mem_of_getElem? (i := 402) (by decide +kernel)⟩
theorem lw_p9 : lw_okq (⟨"BesideTom$Rooms", "single", "(I)Z"⟩, 14) := ⟨⟨by decide +kernel, by decide +kernel⟩, List.mem_of_getElem? (i := 189) (by decide +kernel), List.mem_of_getElem? (i := 405) (by decide +kernel), List.mem_of_getElem? (i := 406) (by decide +kernel)⟩
theorem lw_p10 : lw_okq (⟨"BesideTom$Rooms", "test", "()Z"⟩, 14) := ⟨⟨by decide +kernel, by decide +kernel⟩, List.mem_of_getElem? (i := 189) (by decide +kernel), List.mem_of_getElem? (i := 409) (by decide +kernel), List.mem_of_getElem? (i := 410) (by decide +kernel)⟩
theorem lw_p11 : lw_okq (⟨"BesideTom$Rooms", "letter", "()I"⟩, 14) := ⟨⟨by decide +kernel, by decide +kernel⟩, List.mem_of_getElem? (i := 189) (by decide +kernel), List.mem_of_getElem? (i := 413) (by decide +kernel), List.mem_of_getElem? (i := 414) (by decide +kernel)⟩
theorem lw_p12 : lw_okq (⟨"BesideTom", "isOfPupil", "(I)Z"⟩, 10) := ⟨⟨by decide +kernel, by decide +kernel⟩, List.mem_of_getElem? (i := 22) (by decide +kernel), List.mem_of_getElem? (i := 598) (by decide +kernel), List.mem_of_getElem? (i := 599) (by decide +kernel)⟩
theorem lw_p13 : lw_okq (⟨"BesideTom", "plansFromNow", "()V"⟩, 10) := ⟨⟨by decide +kernel, by decide +kernel⟩, List.mem_of_getElem? (i := 22) (by decide +kernel), List.mem_of_getElem? (i := 626) (by decide +kernel), List.mem_of_getElem? (i := 627) (by decide +kernel)⟩
theorem lw_p14 : lw_okq (⟨"BesideTom", "change", "()I"⟩, 10) := ⟨⟨by decide +kernel, by decide +kernel⟩, List.mem_of_getElem? (i := 22) (by decide +kernel), List.mem_of_getElem? (i := 649) (by decide +kernel), List.mem_of_getElem? (i := 650) (by decide +kernel)⟩
theorem lw_p15 : lw_okq (⟨"BesideTom", "worst", "()I"⟩, 10) := ⟨⟨by decide +kernel, by decide +kernel⟩, List.mem_of_getElem? (i := 22) (by decide +kernel), List.mem_of_getElem? (i := 657) (by decide +kernel), List.mem_of_getElem? (i := 658) (by decide +kernel)⟩
def lw_privs_1 : List (MethodName × Nat) := [(⟨"BesideTom$Rooms", "begins", "(ILBesideTom$Seating;II)V"⟩, 14), (⟨"BesideTom$Rooms", "steps", "()V"⟩, 14), (⟨"BesideTom$Rooms", "clause", "()V"⟩, 14), (⟨"BesideTom$Rooms", "word", "()I"⟩, 14), (⟨"BesideTom$Rooms", "fails", "()V"⟩, 14), (⟨"BesideTom$Rooms", "expects", "(C)V"⟩, 14), (⟨"BesideTom$Rooms", "number", "()I"⟩, 14), (⟨"BesideTom$Rooms", "isDigit", "()Z"⟩, 14), (⟨"BesideTom$Rooms", "either", "(I)Z"⟩, 14), (⟨"BesideTom$Rooms", "single", "(I)Z"⟩, 14), (⟨"BesideTom$Rooms", "test", "()Z"⟩, 14), (⟨"BesideTom$Rooms", "letter", "()I"⟩, 14), (⟨"BesideTom", "isOfPupil", "(I)Z"⟩, 10), (⟨"BesideTom", "plansFromNow", "()V"⟩, 10), (⟨"BesideTom", "change", "()I"⟩, 10), (⟨"BesideTom", "worst", "()I"⟩, 10)]
theorem lw_r1 : ∀ q ∈ lw_privs_1, lw_okq q := List.forall_mem_cons.mpr ⟨lw_p0, List.forall_mem_cons.mpr ⟨lw_p1, List.forall_mem_cons.mpr ⟨lw_p2, List.forall_mem_cons.mpr ⟨lw_p3, List.forall_mem_cons.mpr ⟨lw_p4, List.forall_mem_cons.mpr ⟨lw_p5, List.forall_mem_cons.mpr ⟨lw_p6, List.forall_mem_cons.mpr ⟨lw_p7, List.forall_mem_cons.mpr ⟨lw_p8, List.forall_mem_cons.mpr ⟨lw_p9, List.forall_mem_cons.mpr ⟨lw_p10, List.forall_mem_cons.mpr ⟨lw_p11, List.forall_mem_cons.mpr ⟨lw_p12, List.forall_mem_cons.mpr ⟨lw_p13, List.forall_mem_cons.mpr ⟨lw_p14, List.forall_mem_cons.mpr ⟨lw_p15, fun _ h => absurd h List.not_mem_nil⟩⟩⟩⟩⟩⟩⟩⟩⟩⟩⟩⟩⟩⟩⟩⟩
theorem lw_p16 : lw_okq (⟨"BesideTom", "without", "(I)V"⟩, 10) := ⟨⟨by decide +kernel, by decide +kernel⟩, List.mem_of_getElem? (i := 22) (by decide +kernel), List.mem_of_getElem? (i := 661) (by decide +kernel), List.mem_of_getElem? (i := 662) (by decide +kernel)⟩
theorem lw_p17 : lw_okq (⟨"BesideTom", "isRange", "(III)Z"⟩, 10) := ⟨⟨by decide +kernel, by decide +kernel⟩, List.mem_of_getElem? (i := 22) (by decide +kernel), List.mem_of_getElem? (i := 887) (by decide +kernel), List.mem_of_getElem? (i := 888) (by decide +kernel)⟩
theorem lw_p18 : lw_okq (⟨"BesideTomModel", "in", "(III)Z"⟩, 69) := ⟨⟨by decide +kernel, by decide +kernel⟩, List.mem_of_getElem? (i := 891) (by decide +kernel), List.mem_of_getElem? (i := 1110) (by decide +kernel), List.mem_of_getElem? (i := 1111) (by decide +kernel)⟩
theorem lw_p19 : lw_okq (⟨"BesideTomModel", "whoHas", "(I)I"⟩, 69) := ⟨⟨by decide +kernel, by decide +kernel⟩, List.mem_of_getElem? (i := 891) (by decide +kernel), List.mem_of_getElem? (i := 1114) (by decide +kernel), List.mem_of_getElem? (i := 1115) (by decide +kernel)⟩
theorem lw_p20 : lw_okq (⟨"BesideTomModel", "isPupil", "(I)Z"⟩, 69) := ⟨⟨by decide +kernel, by decide +kernel⟩, List.mem_of_getElem? (i := 891) (by decide +kernel), List.mem_of_getElem? (i := 1122) (by decide +kernel), List.mem_of_getElem? (i := 1123) (by decide +kernel)⟩
theorem lw_p21 : lw_okq (⟨"BesideTomModel", "has", "(II)Z"⟩, 69) := ⟨⟨by decide +kernel, by decide +kernel⟩, List.mem_of_getElem? (i := 891) (by decide +kernel), List.mem_of_getElem? (i := 1126) (by decide +kernel), List.mem_of_getElem? (i := 1127) (by decide +kernel)⟩
theorem lw_p22 : lw_okq (⟨"BesideTomModel", "goes", "(IZ)V"⟩, 69) := ⟨⟨by decide +kernel, by decide +kernel⟩, List.mem_of_getElem? (i := 891) (by decide +kernel), List.mem_of_getElem? (i := 1130) (by decide +kernel), List.mem_of_getElem? (i := 1131) (by decide +kernel)⟩
theorem lw_p23 : lw_okq (⟨"BesideTomModel", "isDesk", "(I)Z"⟩, 69) := ⟨⟨by decide +kernel, by decide +kernel⟩, List.mem_of_getElem? (i := 891) (by decide +kernel), List.mem_of_getElem? (i := 1146) (by decide +kernel), List.mem_of_getElem? (i := 1147) (by decide +kernel)⟩
theorem lw_p24 : lw_okq (⟨"BesideTomModel", "moves", "(II)V"⟩, 69) := ⟨⟨by decide +kernel, by decide +kernel⟩, List.mem_of_getElem? (i := 891) (by decide +kernel), List.mem_of_getElem? (i := 1150) (by decide +kernel), List.mem_of_getElem? (i := 1151) (by decide +kernel)⟩
theorem lw_p25 : lw_okq (⟨"BesideTomModel", "takesDesk", "(II)V"⟩, 69) := ⟨⟨by decide +kernel, by decide +kernel⟩, List.mem_of_getElem? (i := 891) (by decide +kernel), List.mem_of_getElem? (i := 1154) (by decide +kernel), List.mem_of_getElem? (i := 1155) (by decide +kernel)⟩
theorem lw_p26 : lw_okq (⟨"BesideTomModel", "noise", "()I"⟩, 69) := ⟨⟨by decide +kernel, by decide +kernel⟩, List.mem_of_getElem? (i := 891) (by decide +kernel), List.mem_of_getElem? (i := 1158) (by decide +kernel), List.mem_of_getElem? (i := 1159) (by decide +kernel)⟩
theorem lw_p27 : lw_okq (⟨"BesideTomModel", "talk", "(I)I"⟩, 69) := ⟨⟨by decide +kernel, by decide +kernel⟩, List.mem_of_getElem? (i := 891) (by decide +kernel), List.mem_of_getElem? (i := 1162) (by decide +kernel), List.mem_of_getElem? (i := 1163) (by decide +kernel)⟩
theorem lw_p28 : lw_okq (⟨"BesideTomModel", "beside", "(I)I"⟩, 69) := ⟨⟨by decide +kernel, by decide +kernel⟩, List.mem_of_getElem? (i := 891) (by decide +kernel), List.mem_of_getElem? (i := 1166) (by decide +kernel), List.mem_of_getElem? (i := 1167) (by decide +kernel)⟩
theorem lw_p29 : lw_okq (⟨"BesideTomModel", "isNext", "(II)Z"⟩, 69) := ⟨⟨by decide +kernel, by decide +kernel⟩, List.mem_of_getElem? (i := 891) (by decide +kernel), List.mem_of_getElem? (i := 1170) (by decide +kernel), List.mem_of_getElem? (i := 1171) (by decide +kernel)⟩
theorem lw_p30 : lw_okq (⟨"BesideTomModel", "voice", "(I)I"⟩, 69) := ⟨⟨by decide +kernel, by decide +kernel⟩, List.mem_of_getElem? (i := 891) (by decide +kernel), List.mem_of_getElem? (i := 1174) (by decide +kernel), List.mem_of_getElem? (i := 1175) (by decide +kernel)⟩
theorem lw_p31 : lw_okq (⟨"BesideTomModel", "many", "(I)I"⟩, 69) := ⟨⟨by decide +kernel, by decide +kernel⟩, List.mem_of_getElem? (i := 891) (by decide +kernel), List.mem_of_getElem? (i := 1178) (by decide +kernel), List.mem_of_getElem? (i := 1179) (by decide +kernel)⟩
def lw_privs_2 : List (MethodName × Nat) := [(⟨"BesideTom", "without", "(I)V"⟩, 10), (⟨"BesideTom", "isRange", "(III)Z"⟩, 10), (⟨"BesideTomModel", "in", "(III)Z"⟩, 69), (⟨"BesideTomModel", "whoHas", "(I)I"⟩, 69), (⟨"BesideTomModel", "isPupil", "(I)Z"⟩, 69), (⟨"BesideTomModel", "has", "(II)Z"⟩, 69), (⟨"BesideTomModel", "goes", "(IZ)V"⟩, 69), (⟨"BesideTomModel", "isDesk", "(I)Z"⟩, 69), (⟨"BesideTomModel", "moves", "(II)V"⟩, 69), (⟨"BesideTomModel", "takesDesk", "(II)V"⟩, 69), (⟨"BesideTomModel", "noise", "()I"⟩, 69), (⟨"BesideTomModel", "talk", "(I)I"⟩, 69), (⟨"BesideTomModel", "beside", "(I)I"⟩, 69), (⟨"BesideTomModel", "isNext", "(II)Z"⟩, 69), (⟨"BesideTomModel", "voice", "(I)I"⟩, 69), (⟨"BesideTomModel", "many", "(I)I"⟩, 69)]
theorem lw_r2 : ∀ q ∈ lw_privs_2, lw_okq q := List.forall_mem_cons.mpr ⟨lw_p16, List.forall_mem_cons.mpr ⟨lw_p17, List.forall_mem_cons.mpr ⟨lw_p18, List.forall_mem_cons.mpr ⟨lw_p19, List.forall_mem_cons.mpr ⟨lw_p20, List.forall_mem_cons.mpr ⟨lw_p21, List.forall_mem_cons.mpr ⟨lw_p22, List.forall_mem_cons.mpr ⟨lw_p23, List.forall_mem_cons.mpr ⟨lw_p24, List.forall_mem_cons.mpr ⟨lw_p25, List.forall_mem_cons.mpr ⟨lw_p26, List.forall_mem_cons.mpr ⟨lw_p27, List.forall_mem_cons.mpr ⟨lw_p28, List.forall_mem_cons.mpr ⟨lw_p29, List.forall_mem_cons.mpr ⟨lw_p30, List.forall_mem_cons.mpr ⟨lw_p31, fun _ h => absurd h List.not_mem_nil⟩⟩⟩⟩⟩⟩⟩⟩⟩⟩⟩⟩⟩⟩⟩⟩
theorem lw_p32 : lw_okq (⟨"BesideTomModel", "mouth", "(II)I"⟩, 69) := ⟨⟨by decide +kernel, by decide +kernel⟩, List.mem_of_getElem? (i := 891) (by decide +kernel), List.mem_of_getElem? (i := 1182) (by decide +kernel), List.mem_of_getElem? (i := 1183) (by decide +kernel)⟩
theorem lw_p33 : lw_okq (⟨"BesideTomModel", "begin", "()I"⟩, 69) := ⟨⟨by decide +kernel, by decide +kernel⟩, List.mem_of_getElem? (i := 891) (by decide +kernel), List.mem_of_getElem? (i := 1186) (by decide +kernel), List.mem_of_getElem? (i := 1187) (by decide +kernel)⟩
theorem lw_p34 : lw_okq (⟨"BesideTomModel", "behind", "()I"⟩, 69) := ⟨⟨by decide +kernel, by decide +kernel⟩, List.mem_of_getElem? (i := 891) (by decide +kernel), List.mem_of_getElem? (i := 1190) (by decide +kernel), List.mem_of_getElem? (i := 1191) (by decide +kernel)⟩
theorem lw_p35 : lw_okq (⟨"BesideTomModel", "holds", "(III)Z"⟩, 69) := ⟨⟨by decide +kernel, by decide +kernel⟩, List.mem_of_getElem? (i := 891) (by decide +kernel), List.mem_of_getElem? (i := 1194) (by decide +kernel), List.mem_of_getElem? (i := 1195) (by decide +kernel)⟩
theorem lw_p36 : lw_okq (⟨"BesideTomModel", "factOf", "(III)I"⟩, 69) := ⟨⟨by decide +kernel, by decide +kernel⟩, List.mem_of_getElem? (i := 891) (by decide +kernel), List.mem_of_getElem? (i := 1198) (by decide +kernel), List.mem_of_getElem? (i := 1199) (by decide +kernel)⟩
theorem lw_p37 : lw_okq (⟨"BesideTomModel", "least0", "(I)I"⟩, 69) := ⟨⟨by decide +kernel, by decide +kernel⟩, List.mem_of_getElem? (i := 891) (by decide +kernel), List.mem_of_getElem? (i := 1202) (by decide +kernel), List.mem_of_getElem? (i := 1203) (by decide +kernel)⟩
theorem lw_p38 : lw_okq (⟨"BesideTomModel", "wears", "()I"⟩, 69) := ⟨⟨by decide +kernel, by decide +kernel⟩, List.mem_of_getElem? (i := 891) (by decide +kernel), List.mem_of_getElem? (i := 1206) (by decide +kernel), List.mem_of_getElem? (i := 1207) (by decide +kernel)⟩
theorem lw_p39 : lw_okq (⟨"BesideTomModel", "lastOf", "(II)I"⟩, 69) := ⟨⟨by decide +kernel, by decide +kernel⟩, List.mem_of_getElem? (i := 891) (by decide +kernel), List.mem_of_getElem? (i := 1210) (by decide +kernel), List.mem_of_getElem? (i := 1211) (by decide +kernel)⟩
theorem lw_p40 : lw_okq (⟨"BesideTomModel", "goesText", "(I)Z"⟩, 69) := ⟨⟨by decide +kernel, by decide +kernel⟩, List.mem_of_getElem? (i := 891) (by decide +kernel), List.mem_of_getElem? (i := 1222) (by decide +kernel), List.mem_of_getElem? (i := 1223) (by decide +kernel)⟩
theorem lw_p41 : lw_okq (⟨"BesideTomModel", "takesClause", "(I)Z"⟩, 69) := ⟨⟨by decide +kernel, by decide +kernel⟩, List.mem_of_getElem? (i := 891) (by decide +kernel), List.mem_of_getElem? (i := 1226) (by decide +kernel), List.mem_of_getElem? (i := 1227) (by decide +kernel)⟩
theorem lw_p42 : lw_okq (⟨"BesideTomModel", "takesHead", "(I)Z"⟩, 69) := ⟨⟨by decide +kernel, by decide +kernel⟩, List.mem_of_getElem? (i := 891) (by decide +kernel), List.mem_of_getElem? (i := 1230) (by decide +kernel), List.mem_of_getElem? (i := 1231) (by decide +kernel)⟩
theorem lw_p43 : lw_okq (⟨"BesideTomModel", "next", "()I"⟩, 69) := ⟨⟨by decide +kernel, by decide +kernel⟩, List.mem_of_getElem? (i := 891) (by decide +kernel), List.mem_of_getElem? (i := 1234) (by decide +kernel), List.mem_of_getElem? (i := 1235) (by decide +kernel)⟩
theorem lw_p44 : lw_okq (⟨"BesideTomModel", "takesWord", "(II)Z"⟩, 69) := ⟨⟨by decide +kernel, by decide +kernel⟩, List.mem_of_getElem? (i := 891) (by decide +kernel), List.mem_of_getElem? (i := 1238) (by decide +kernel), List.mem_of_getElem? (i := 1239) (by decide +kernel)⟩
theorem lw_p45 : lw_okq (⟨"BesideTomModel", "takes", "(I)Z"⟩, 69) := ⟨⟨by decide +kernel, by decide +kernel⟩, List.mem_of_getElem? (i := 891) (by decide +kernel), List.mem_of_getElem? (i := 1242) (by decide +kernel), List.mem_of_getElem? (i := 1243) (by decide +kernel)⟩
theorem lw_p46 : lw_okq (⟨"BesideTomModel", "second", "()I"⟩, 69) := ⟨⟨by decide +kernel, by decide +kernel⟩, List.mem_of_getElem? (i := 891) (by decide +kernel), List.mem_of_getElem? (i := 1246) (by decide +kernel), List.mem_of_getElem? (i := 1247) (by decide +kernel)⟩
theorem lw_p47 : lw_okq (⟨"BesideTomModel", "takesNumber", "()Z"⟩, 69) := ⟨⟨by decide +kernel, by decide +kernel⟩, List.mem_of_getElem? (i := 891) (by decide +kernel), List.mem_of_getElem? (i := 1250) (by decide +kernel), List.mem_of_getElem? (i := 1251) (by decide +kernel)⟩
def lw_privs_3 : List (MethodName × Nat) := [(⟨"BesideTomModel", "mouth", "(II)I"⟩, 69), (⟨"BesideTomModel", "begin", "()I"⟩, 69), (⟨"BesideTomModel", "behind", "()I"⟩, 69), (⟨"BesideTomModel", "holds", "(III)Z"⟩, 69), (⟨"BesideTomModel", "factOf", "(III)I"⟩, 69), (⟨"BesideTomModel", "least0", "(I)I"⟩, 69), (⟨"BesideTomModel", "wears", "()I"⟩, 69), (⟨"BesideTomModel", "lastOf", "(II)I"⟩, 69), (⟨"BesideTomModel", "goesText", "(I)Z"⟩, 69), (⟨"BesideTomModel", "takesClause", "(I)Z"⟩, 69), (⟨"BesideTomModel", "takesHead", "(I)Z"⟩, 69), (⟨"BesideTomModel", "next", "()I"⟩, 69), (⟨"BesideTomModel", "takesWord", "(II)Z"⟩, 69), (⟨"BesideTomModel", "takes", "(I)Z"⟩, 69), (⟨"BesideTomModel", "second", "()I"⟩, 69), (⟨"BesideTomModel", "takesNumber", "()Z"⟩, 69)]
theorem lw_r3 : ∀ q ∈ lw_privs_3, lw_okq q := List.forall_mem_cons.mpr ⟨lw_p32, List.forall_mem_cons.mpr ⟨lw_p33, List.forall_mem_cons.mpr ⟨lw_p34, List.forall_mem_cons.mpr ⟨lw_p35, List.forall_mem_cons.mpr ⟨lw_p36, List.forall_mem_cons.mpr ⟨lw_p37, List.forall_mem_cons.mpr ⟨lw_p38, List.forall_mem_cons.mpr ⟨lw_p39, List.forall_mem_cons.mpr ⟨lw_p40, List.forall_mem_cons.mpr ⟨lw_p41, List.forall_mem_cons.mpr ⟨lw_p42, List.forall_mem_cons.mpr ⟨lw_p43, List.forall_mem_cons.mpr ⟨lw_p44, List.forall_mem_cons.mpr ⟨lw_p45, List.forall_mem_cons.mpr ⟨lw_p46, List.forall_mem_cons.mpr ⟨lw_p47, fun _ h => absurd h List.not_mem_nil⟩⟩⟩⟩⟩⟩⟩⟩⟩⟩⟩⟩⟩⟩⟩⟩
theorem lw_p48 : lw_okq (⟨"BesideTomModel", "isDigit", "()Z"⟩, 69) := ⟨⟨by decide +kernel, by decide +kernel⟩, List.mem_of_getElem? (i := 891) (by decide +kernel), List.mem_of_getElem? (i := 1254) (by decide +kernel), List.mem_of_getElem? (i := 1255) (by decide +kernel)⟩
theorem lw_p49 : lw_okq (⟨"BesideTomModel", "takesE", "(I)Z"⟩, 69) := ⟨⟨by decide +kernel, by decide +kernel⟩, List.mem_of_getElem? (i := 891) (by decide +kernel), List.mem_of_getElem? (i := 1258) (by decide +kernel), List.mem_of_getElem? (i := 1259) (by decide +kernel)⟩
theorem lw_p50 : lw_okq (⟨"BesideTomModel", "takesTest", "()Z"⟩, 69) := ⟨⟨by decide +kernel, by decide +kernel⟩, List.mem_of_getElem? (i := 891) (by decide +kernel), List.mem_of_getElem? (i := 1262) (by decide +kernel), List.mem_of_getElem? (i := 1263) (by decide +kernel)⟩
theorem lw_p51 : lw_okq (⟨"BesideTomModel", "place", "(I)I"⟩, 69) := ⟨⟨by decide +kernel, by decide +kernel⟩, List.mem_of_getElem? (i := 891) (by decide +kernel), List.mem_of_getElem? (i := 1266) (by decide +kernel), List.mem_of_getElem? (i := 1267) (by decide +kernel)⟩
theorem lw_p52 : lw_okq (⟨"BesideTomModel", "emits", "(I)V"⟩, 69) := ⟨⟨by decide +kernel, by decide +kernel⟩, List.mem_of_getElem? (i := 891) (by decide +kernel), List.mem_of_getElem? (i := 1270) (by decide +kernel), List.mem_of_getElem? (i := 1271) (by decide +kernel)⟩
theorem lw_p53 : lw_okq (⟨"BesideTomModel", "whole", "()V"⟩, 69) := ⟨⟨by decide +kernel, by decide +kernel⟩, List.mem_of_getElem? (i := 891) (by decide +kernel), List.mem_of_getElem? (i := 1274) (by decide +kernel), List.mem_of_getElem? (i := 1275) (by decide +kernel)⟩
theorem lw_p54 : lw_okq (⟨"BesideTomModel", "settle", "(I)V"⟩, 69) := ⟨⟨by decide +kernel, by decide +kernel⟩, List.mem_of_getElem? (i := 891) (by decide +kernel), List.mem_of_getElem? (i := 1278) (by decide +kernel), List.mem_of_getElem? (i := 1279) (by decide +kernel)⟩
theorem lw_p55 : lw_okq (⟨"BesideTomModel", "learns", "(I)I"⟩, 69) := ⟨⟨by decide +kernel, by decide +kernel⟩, List.mem_of_getElem? (i := 891) (by decide +kernel), List.mem_of_getElem? (i := 1286) (by decide +kernel), List.mem_of_getElem? (i := 1287) (by decide +kernel)⟩
theorem lw_p56 : lw_okq (⟨"BesideTomModel", "learnsBy", "(II)I"⟩, 69) := ⟨⟨by decide +kernel, by decide +kernel⟩, List.mem_of_getElem? (i := 891) (by decide +kernel), List.mem_of_getElem? (i := 1290) (by decide +kernel), List.mem_of_getElem? (i := 1291) (by decide +kernel)⟩
theorem lw_p57 : lw_okq (⟨"BesideTomModel", "cost", "()I"⟩, 69) := ⟨⟨by decide +kernel, by decide +kernel⟩, List.mem_of_getElem? (i := 891) (by decide +kernel), List.mem_of_getElem? (i := 1294) (by decide +kernel), List.mem_of_getElem? (i := 1295) (by decide +kernel)⟩
theorem lw_p58 : lw_okq (⟨"BesideTomModel", "allKnow", "()I"⟩, 69) := ⟨⟨by decide +kernel, by decide +kernel⟩, List.mem_of_getElem? (i := 891) (by decide +kernel), List.mem_of_getElem? (i := 1302) (by decide +kernel), List.mem_of_getElem? (i := 1303) (by decide +kernel)⟩
theorem lw_p59 : lw_okq (⟨"BesideTomModel", "allLearn", "()I"⟩, 69) := ⟨⟨by decide +kernel, by decide +kernel⟩, List.mem_of_getElem? (i := 891) (by decide +kernel), List.mem_of_getElem? (i := 1306) (by decide +kernel), List.mem_of_getElem? (i := 1307) (by decide +kernel)⟩
theorem lw_p60 : lw_okq (⟨"BesideTomModel", "isWeeks", "(I)Z"⟩, 69) := ⟨⟨by decide +kernel, by decide +kernel⟩, List.mem_of_getElem? (i := 891) (by decide +kernel), List.mem_of_getElem? (i := 1314) (by decide +kernel), List.mem_of_getElem? (i := 1315) (by decide +kernel)⟩
theorem lw_p61 : lw_okq (⟨"BesideTomModel", "goWeeks", "(I)V"⟩, 69) := ⟨⟨by decide +kernel, by decide +kernel⟩, List.mem_of_getElem? (i := 891) (by decide +kernel), List.mem_of_getElem? (i := 1318) (by decide +kernel), List.mem_of_getElem? (i := 1319) (by decide +kernel)⟩
theorem lw_p62 : lw_okq (⟨"BesideTomModel", "goWeek", "()V"⟩, 69) := ⟨⟨by decide +kernel, by decide +kernel⟩, List.mem_of_getElem? (i := 891) (by decide +kernel), List.mem_of_getElem? (i := 1322) (by decide +kernel), List.mem_of_getElem? (i := 1323) (by decide +kernel)⟩
theorem lw_p63 : lw_okq (⟨"BesideTomModel", "least", "(II)I"⟩, 69) := ⟨⟨by decide +kernel, by decide +kernel⟩, List.mem_of_getElem? (i := 891) (by decide +kernel), List.mem_of_getElem? (i := 1326) (by decide +kernel), List.mem_of_getElem? (i := 1327) (by decide +kernel)⟩
def lw_privs_4 : List (MethodName × Nat) := [(⟨"BesideTomModel", "isDigit", "()Z"⟩, 69), (⟨"BesideTomModel", "takesE", "(I)Z"⟩, 69), (⟨"BesideTomModel", "takesTest", "()Z"⟩, 69), (⟨"BesideTomModel", "place", "(I)I"⟩, 69), (⟨"BesideTomModel", "emits", "(I)V"⟩, 69), (⟨"BesideTomModel", "whole", "()V"⟩, 69), (⟨"BesideTomModel", "settle", "(I)V"⟩, 69), (⟨"BesideTomModel", "learns", "(I)I"⟩, 69), (⟨"BesideTomModel", "learnsBy", "(II)I"⟩, 69), (⟨"BesideTomModel", "cost", "()I"⟩, 69), (⟨"BesideTomModel", "allKnow", "()I"⟩, 69), (⟨"BesideTomModel", "allLearn", "()I"⟩, 69), (⟨"BesideTomModel", "isWeeks", "(I)Z"⟩, 69), (⟨"BesideTomModel", "goWeeks", "(I)V"⟩, 69), (⟨"BesideTomModel", "goWeek", "()V"⟩, 69), (⟨"BesideTomModel", "least", "(II)I"⟩, 69)]
theorem lw_r4 : ∀ q ∈ lw_privs_4, lw_okq q := List.forall_mem_cons.mpr ⟨lw_p48, List.forall_mem_cons.mpr ⟨lw_p49, List.forall_mem_cons.mpr ⟨lw_p50, List.forall_mem_cons.mpr ⟨lw_p51, List.forall_mem_cons.mpr ⟨lw_p52, List.forall_mem_cons.mpr ⟨lw_p53, List.forall_mem_cons.mpr ⟨lw_p54, List.forall_mem_cons.mpr ⟨lw_p55, List.forall_mem_cons.mpr ⟨lw_p56, List.forall_mem_cons.mpr ⟨lw_p57, List.forall_mem_cons.mpr ⟨lw_p58, List.forall_mem_cons.mpr ⟨lw_p59, List.forall_mem_cons.mpr ⟨lw_p60, List.forall_mem_cons.mpr ⟨lw_p61, List.forall_mem_cons.mpr ⟨lw_p62, List.forall_mem_cons.mpr ⟨lw_p63, fun _ h => absurd h List.not_mem_nil⟩⟩⟩⟩⟩⟩⟩⟩⟩⟩⟩⟩⟩⟩⟩⟩
theorem lw_p64 : lw_okq (⟨"BesideTomModel", "save", "()V"⟩, 69) := ⟨⟨by decide +kernel, by decide +kernel⟩, List.mem_of_getElem? (i := 891) (by decide +kernel), List.mem_of_getElem? (i := 1334) (by decide +kernel), List.mem_of_getElem? (i := 1335) (by decide +kernel)⟩
theorem lw_p65 : lw_okq (⟨"BesideTomModel", "putBack", "()V"⟩, 69) := ⟨⟨by decide +kernel, by decide +kernel⟩, List.mem_of_getElem? (i := 891) (by decide +kernel), List.mem_of_getElem? (i := 1339) (by decide +kernel), List.mem_of_getElem? (i := 1340) (by decide +kernel)⟩
theorem lw_p66 : lw_okq (⟨"BesideTomModel", "isNoise", "(I)Z"⟩, 69) := ⟨⟨by decide +kernel, by decide +kernel⟩, List.mem_of_getElem? (i := 891) (by decide +kernel), List.mem_of_getElem? (i := 1347) (by decide +kernel), List.mem_of_getElem? (i := 1348) (by decide +kernel)⟩
theorem lw_p67 : lw_okq (⟨"BesideTomModel", "layBest", "(Z)I"⟩, 69) := ⟨⟨by decide +kernel, by decide +kernel⟩, List.mem_of_getElem? (i := 891) (by decide +kernel), List.mem_of_getElem? (i := 1355) (by decide +kernel), List.mem_of_getElem? (i := 1356) (by decide +kernel)⟩
theorem lw_p68 : lw_okq (⟨"BesideTomModel", "layPlan", "(I)Z"⟩, 69) := ⟨⟨by decide +kernel, by decide +kernel⟩, List.mem_of_getElem? (i := 891) (by decide +kernel), List.mem_of_getElem? (i := 1359) (by decide +kernel), List.mem_of_getElem? (i := 1360) (by decide +kernel)⟩
theorem lw_p69 : lw_okq (⟨"BesideTomModel", "noiseIfMoved", "(II)I"⟩, 69) := ⟨⟨by decide +kernel, by decide +kernel⟩, List.mem_of_getElem? (i := 891) (by decide +kernel), List.mem_of_getElem? (i := 1371) (by decide +kernel), List.mem_of_getElem? (i := 1372) (by decide +kernel)⟩
theorem lw_p70 : lw_okq (⟨"BesideTomModel", "changeOf", "()I"⟩, 69) := ⟨⟨by decide +kernel, by decide +kernel⟩, List.mem_of_getElem? (i := 891) (by decide +kernel), List.mem_of_getElem? (i := 1379) (by decide +kernel), List.mem_of_getElem? (i := 1380) (by decide +kernel)⟩
theorem lw_p71 : lw_okq (⟨"BesideTomModel", "worstOf", "()I"⟩, 69) := ⟨⟨by decide +kernel, by decide +kernel⟩, List.mem_of_getElem? (i := 891) (by decide +kernel), List.mem_of_getElem? (i := 1383) (by decide +kernel), List.mem_of_getElem? (i := 1384) (by decide +kernel)⟩
theorem lw_p72 : lw_okq (⟨"BesideTomModel", "noiseWithout", "(I)I"⟩, 69) := ⟨⟨by decide +kernel, by decide +kernel⟩, List.mem_of_getElem? (i := 891) (by decide +kernel), List.mem_of_getElem? (i := 1387) (by decide +kernel), List.mem_of_getElem? (i := 1388) (by decide +kernel)⟩
theorem lw_p73 : lw_okq (⟨"BesideTomModel", "isQuietBy", "(III)Z"⟩, 69) := ⟨⟨by decide +kernel, by decide +kernel⟩, List.mem_of_getElem? (i := 891) (by decide +kernel), List.mem_of_getElem? (i := 1395) (by decide +kernel), List.mem_of_getElem? (i := 1396) (by decide +kernel)⟩
theorem lw_p74 : lw_okq (⟨"BesideTomModel", "isPair", "(I)Z"⟩, 69) := ⟨⟨by decide +kernel, by decide +kernel⟩, List.mem_of_getElem? (i := 891) (by decide +kernel), List.mem_of_getElem? (i := 1399) (by decide +kernel), List.mem_of_getElem? (i := 1400) (by decide +kernel)⟩
theorem lw_p75 : lw_okq (⟨"BesideTomModel", "swaps", "(I)V"⟩, 69) := ⟨⟨by decide +kernel, by decide +kernel⟩, List.mem_of_getElem? (i := 891) (by decide +kernel), List.mem_of_getElem? (i := 1403) (by decide +kernel), List.mem_of_getElem? (i := 1404) (by decide +kernel)⟩
theorem lw_p76 : lw_okq (⟨"BesideTomModel", "isHeard", "()Z"⟩, 69) := ⟨⟨by decide +kernel, by decide +kernel⟩, List.mem_of_getElem? (i := 891) (by decide +kernel), List.mem_of_getElem? (i := 1415) (by decide +kernel), List.mem_of_getElem? (i := 1416) (by decide +kernel)⟩
theorem lw_p77 : lw_okq (⟨"BesideTomModel", "lowest", "(III)J"⟩, 69) := ⟨⟨by decide +kernel, by decide +kernel⟩, List.mem_of_getElem? (i := 891) (by decide +kernel), List.mem_of_getElem? (i := 1428) (by decide +kernel), List.mem_of_getElem? (i := 1429) (by decide +kernel)⟩
theorem lw_p78 : lw_okq (⟨"BesideTomModel", "divisor", "(II)I"⟩, 69) := ⟨⟨by decide +kernel, by decide +kernel⟩, List.mem_of_getElem? (i := 891) (by decide +kernel), List.mem_of_getElem? (i := 1432) (by decide +kernel), List.mem_of_getElem? (i := 1433) (by decide +kernel)⟩
theorem lw_p79 : lw_okq (⟨"BesideTomModel", "isTape", "(I)Z"⟩, 69) := ⟨⟨by decide +kernel, by decide +kernel⟩, List.mem_of_getElem? (i := 891) (by decide +kernel), List.mem_of_getElem? (i := 1460) (by decide +kernel), List.mem_of_getElem? (i := 1461) (by decide +kernel)⟩
def lw_privs_5 : List (MethodName × Nat) := [(⟨"BesideTomModel", "save", "()V"⟩, 69), (⟨"BesideTomModel", "putBack", "()V"⟩, 69), (⟨"BesideTomModel", "isNoise", "(I)Z"⟩, 69), (⟨"BesideTomModel", "layBest", "(Z)I"⟩, 69), (⟨"BesideTomModel", "layPlan", "(I)Z"⟩, 69), (⟨"BesideTomModel", "noiseIfMoved", "(II)I"⟩, 69), (⟨"BesideTomModel", "changeOf", "()I"⟩, 69), (⟨"BesideTomModel", "worstOf", "()I"⟩, 69), (⟨"BesideTomModel", "noiseWithout", "(I)I"⟩, 69), (⟨"BesideTomModel", "isQuietBy", "(III)Z"⟩, 69), (⟨"BesideTomModel", "isPair", "(I)Z"⟩, 69), (⟨"BesideTomModel", "swaps", "(I)V"⟩, 69), (⟨"BesideTomModel", "isHeard", "()Z"⟩, 69), (⟨"BesideTomModel", "lowest", "(III)J"⟩, 69), (⟨"BesideTomModel", "divisor", "(II)I"⟩, 69), (⟨"BesideTomModel", "isTape", "(I)Z"⟩, 69)]
theorem lw_r5 : ∀ q ∈ lw_privs_5, lw_okq q := List.forall_mem_cons.mpr ⟨lw_p64, List.forall_mem_cons.mpr ⟨lw_p65, List.forall_mem_cons.mpr ⟨lw_p66, List.forall_mem_cons.mpr ⟨lw_p67, List.forall_mem_cons.mpr ⟨lw_p68, List.forall_mem_cons.mpr ⟨lw_p69, List.forall_mem_cons.mpr ⟨lw_p70, List.forall_mem_cons.mpr ⟨lw_p71, List.forall_mem_cons.mpr ⟨lw_p72, List.forall_mem_cons.mpr ⟨lw_p73, List.forall_mem_cons.mpr ⟨lw_p74, List.forall_mem_cons.mpr ⟨lw_p75, List.forall_mem_cons.mpr ⟨lw_p76, List.forall_mem_cons.mpr ⟨lw_p77, List.forall_mem_cons.mpr ⟨lw_p78, List.forall_mem_cons.mpr ⟨lw_p79, fun _ h => absurd h List.not_mem_nil⟩⟩⟩⟩⟩⟩⟩⟩⟩⟩⟩⟩⟩⟩⟩⟩
theorem lw_p80 : lw_okq (⟨"BesideTomModel", "whispersAct", "(II)I"⟩, 69) := ⟨⟨by decide +kernel, by decide +kernel⟩, List.mem_of_getElem? (i := 891) (by decide +kernel), List.mem_of_getElem? (i := 1476) (by decide +kernel), List.mem_of_getElem? (i := 1477) (by decide +kernel)⟩
theorem lw_p81 : lw_okq (⟨"BesideTomModel", "body", "(I)V"⟩, 69) := ⟨⟨by decide +kernel, by decide +kernel⟩, List.mem_of_getElem? (i := 891) (by decide +kernel), List.mem_of_getElem? (i := 1480) (by decide +kernel), List.mem_of_getElem? (i := 1481) (by decide +kernel)⟩
theorem lw_p82 : lw_okq (⟨"BesideTomModel", "pupilWhispers", "(II)I"⟩, 69) := ⟨⟨by decide +kernel, by decide +kernel⟩, List.mem_of_getElem? (i := 891) (by decide +kernel), List.mem_of_getElem? (i := 1484) (by decide +kernel), List.mem_of_getElem? (i := 1485) (by decide +kernel)⟩
theorem lw_p83 : lw_okq (⟨"BesideTomModel", "chatsAct", "(II)I"⟩, 69) := ⟨⟨by decide +kernel, by decide +kernel⟩, List.mem_of_getElem? (i := 891) (by decide +kernel), List.mem_of_getElem? (i := 1488) (by decide +kernel), List.mem_of_getElem? (i := 1489) (by decide +kernel)⟩
theorem lw_p84 : lw_okq (⟨"BesideTomModel", "talkerChats", "(II)I"⟩, 69) := ⟨⟨by decide +kernel, by decide +kernel⟩, List.mem_of_getElem? (i := 891) (by decide +kernel), List.mem_of_getElem? (i := 1492) (by decide +kernel), List.mem_of_getElem? (i := 1493) (by decide +kernel)⟩
theorem lw_p85 : lw_okq (⟨"BesideTomModel", "pupilChats", "(II)I"⟩, 69) := ⟨⟨by decide +kernel, by decide +kernel⟩, List.mem_of_getElem? (i := 891) (by decide +kernel), List.mem_of_getElem? (i := 1496) (by decide +kernel), List.mem_of_getElem? (i := 1497) (by decide +kernel)⟩
theorem lw_p86 : lw_okq (⟨"BesideTomModel", "tellsAct", "(II)I"⟩, 69) := ⟨⟨by decide +kernel, by decide +kernel⟩, List.mem_of_getElem? (i := 891) (by decide +kernel), List.mem_of_getElem? (i := 1500) (by decide +kernel), List.mem_of_getElem? (i := 1501) (by decide +kernel)⟩
theorem lw_p87 : lw_okq (⟨"BesideTomModel", "pupilTells", "(II)I"⟩, 69) := ⟨⟨by decide +kernel, by decide +kernel⟩, List.mem_of_getElem? (i := 891) (by decide +kernel), List.mem_of_getElem? (i := 1504) (by decide +kernel), List.mem_of_getElem? (i := 1505) (by decide +kernel)⟩
theorem lw_p88 : lw_okq (⟨"BesideTomModel", "narrow", "(IJ)J"⟩, 69) := ⟨⟨by decide +kernel, by decide +kernel⟩, List.mem_of_getElem? (i := 891) (by decide +kernel), List.mem_of_getElem? (i := 1528) (by decide +kernel), List.mem_of_getElem? (i := 1529) (by decide +kernel)⟩
def lw_privs_6 : List (MethodName × Nat) := [(⟨"BesideTomModel", "whispersAct", "(II)I"⟩, 69), (⟨"BesideTomModel", "body", "(I)V"⟩, 69), (⟨"BesideTomModel", "pupilWhispers", "(II)I"⟩, 69), (⟨"BesideTomModel", "chatsAct", "(II)I"⟩, 69), (⟨"BesideTomModel", "talkerChats", "(II)I"⟩, 69), (⟨"BesideTomModel", "pupilChats", "(II)I"⟩, 69), (⟨"BesideTomModel", "tellsAct", "(II)I"⟩, 69), (⟨"BesideTomModel", "pupilTells", "(II)I"⟩, 69), (⟨"BesideTomModel", "narrow", "(IJ)J"⟩, 69)]
theorem lw_r6 : ∀ q ∈ lw_privs_6, lw_okq q := List.forall_mem_cons.mpr ⟨lw_p80, List.forall_mem_cons.mpr ⟨lw_p81, List.forall_mem_cons.mpr ⟨lw_p82, List.forall_mem_cons.mpr ⟨lw_p83, List.forall_mem_cons.mpr ⟨lw_p84, List.forall_mem_cons.mpr ⟨lw_p85, List.forall_mem_cons.mpr ⟨lw_p86, List.forall_mem_cons.mpr ⟨lw_p87, List.forall_mem_cons.mpr ⟨lw_p88, fun _ h => absurd h List.not_mem_nil⟩⟩⟩⟩⟩⟩⟩⟩⟩
def lw_privs : List (MethodName × Nat) := lw_privs_1 ++ (lw_privs_2 ++ (lw_privs_3 ++ (lw_privs_4 ++ (lw_privs_5 ++ (lw_privs_6)))))
def lw_tbl : List Cond := k2_sels lw_privs ++ tables_1
theorem lw_privs_ok : ∀ q ∈ lw_privs, lw_okq q := by
  show ∀ q ∈ lw_privs_1 ++ (lw_privs_2 ++ (lw_privs_3 ++ (lw_privs_4 ++ (lw_privs_5 ++ (lw_privs_6))))), lw_okq q
  exact List.forall_mem_append.mpr ⟨lw_r1, List.forall_mem_append.mpr ⟨lw_r2, List.forall_mem_append.mpr ⟨lw_r3, List.forall_mem_append.mpr ⟨lw_r4, List.forall_mem_append.mpr ⟨lw_r5, lw_r6⟩⟩⟩⟩⟩
-- ===== end of PART A; then your names; then what follows =====
end
section
def gW : List Cond := lw_tbl.filter goodWord
theorem gW_in {w : Cond} (h : w ∈ gW) : w ∈ lw_tbl := (List.mem_filter.mp h).1
theorem gW_good {w : Cond} (h : w ∈ gW) : goodWord w = true := (List.mem_filter.mp h).2
theorem gW_i (i : Nat) (w : Cond) (h : tables_1[i]? = some w) (g : goodWord w = true) : w ∈ gW := List.mem_filter.mpr ⟨List.mem_append_right _ (List.mem_of_getElem? h), g⟩
theorem gW_s (i : Nat) (w : Cond) (h : (k2_sels lw_privs)[i]? = some w) (g : goodWord w = true) : w ∈ gW := List.mem_filter.mpr ⟨List.mem_append_left _ (List.mem_of_getElem? h), g⟩
theorem gW_l (ws : List Cond) (ps : List Nat) (hp : ps.map (fun i => tables_1[i]?) = ws.map some) (hg : ws.all goodWord = true) : ∀ w ∈ ws, w ∈ gW := by
  intro w hw
  have h1 : some w ∈ ws.map some := List.mem_map.mpr ⟨w, hw, rfl⟩
  rw [← hp] at h1
  obtain ⟨i, -, hi⟩ := List.mem_map.mp h1
  exact gW_i i w hi (List.all_eq_true.mp hg w hw)
def RX0 : String := "BesideTom$CorkKind"
def TX0 : u_T := fun k => match k with
  | _ => ("", "", "", false)
def tyX0 : Nat → FieldType := fun k => match k with
  | _ => .int
def RX1 : String := "BesideTom$PupilKind"
def TX1 : u_T := fun k => match k with
  | _ => ("", "", "", false)
def tyX1 : Nat → FieldType := fun k => match k with
  | _ => .int
def RX2 : String := "BesideTom$QuietKind"
def TX2 : u_T := fun k => match k with
  | _ => ("", "", "", false)
def tyX2 : Nat → FieldType := fun k => match k with
  | _ => .int
def RX3 : String := "BesideTom$Rooms"
def TX3 : u_T := fun k => match k with
  | 0 => ("BesideTom$Rooms", "texts", "[[B", true)
  | 1 => ("BesideTom$Rooms", "lengths", "[I", true)
  | 2 => ("BesideTom$Rooms", "many", "I", false)
  | 3 => ("BesideTom$Rooms", "row", "I", false)
  | 4 => ("BesideTom$Rooms", "at", "I", false)
  | 5 => ("BesideTom$Rooms", "sign", "I", false)
  | 6 => ("BesideTom$Rooms", "fault", "I", false)
  | 7 => ("BesideTom$Rooms", "pupil", "I", false)
  | 8 => ("BesideTom$Rooms", "kind", "I", false)
  | 9 => ("BesideTom$Rooms", "v", "I", false)
  | 10 => ("BesideTom$Rooms", "desk", "I", false)
  | 11 => ("BesideTom$Rooms", "mouth", "I", false)
  | 12 => ("BesideTom$Rooms", "wears", "I", false)
  | _ => ("BesideTom$Rooms", "cost", "I", false)
def tyX3 : Nat → FieldType := fun k => match k with
  | 0 => .array (.array .byte)
  | 1 => .array .int
  | 2 => .int
  | 3 => .int
  | 4 => .int
  | 5 => .int
  | 6 => .int
  | 7 => .int
  | 8 => .int
  | 9 => .int
  | 10 => .int
  | 11 => .int
  | 12 => .int
  | _ => .int
def RX4 : String := "BesideTom$Rows"
def TX4 : u_T := fun k => match k with
  | 0 => ("BesideTom$Rows", "first", "[I", true)
  | 1 => ("BesideTom$Rows", "second", "[I", true)
  | _ => ("BesideTom$Rows", "many", "I", false)
def tyX4 : Nat → FieldType := fun k => match k with
  | 0 => .array .int
  | 1 => .array .int
  | _ => .int
def RX5 : String := "BesideTom$Seating"
def TX5 : u_T := fun k => match k with
  | 0 => ("BesideTom$Seating", "kinds", "[LBesideTom$PupilKind;", true)
  | 1 => ("BesideTom$Seating", "many", "I", false)
  | 2 => ("BesideTom$Seating", "week", "I", false)
  | 3 => ("BesideTom$Seating", "wear", "I", false)
  | 4 => ("BesideTom$Seating", "wears", "I", false)
  | 5 => ("BesideTom$Seating", "cost", "I", false)
  | 6 => ("BesideTom$Seating", "held", "I", false)
  | 7 => ("BesideTom$Seating", "away", "I", false)
  | 8 => ("BesideTom$Seating", "corks", "I", false)
  | 9 => ("BesideTom$Seating", "kind", "[I", true)
  | 10 => ("BesideTom$Seating", "v", "[I", true)
  | 11 => ("BesideTom$Seating", "desk", "[I", true)
  | 12 => ("BesideTom$Seating", "knows", "[I", true)
  | 13 => ("BesideTom$Seating", "lines", "[I", true)
  | 14 => ("BesideTom$Seating", "mouths", "[I", true)
  | 15 => ("BesideTom$Seating", "heard", "LBesideTom$Rows;", true)
  | 16 => ("BesideTom$Seating", "term", "LBesideTom$Rows;", true)
  | _ => ("BesideTom$Seating", "book", "LBesideTom$Rows;", true)
def tyX5 : Nat → FieldType := fun k => match k with
  | 0 => .array (.object "BesideTom$PupilKind")
  | 1 => .int
  | 2 => .int
  | 3 => .int
  | 4 => .int
  | 5 => .int
  | 6 => .int
  | 7 => .int
  | 8 => .int
  | 9 => .array .int
  | 10 => .array .int
  | 11 => .array .int
  | 12 => .array .int
  | 13 => .array .int
  | 14 => .array .int
  | 15 => .object "BesideTom$Rows"
  | 16 => .object "BesideTom$Rows"
  | _ => .object "BesideTom$Rows"
def RX6 : String := "BesideTom$ShortKind"
def TX6 : u_T := fun k => match k with
  | _ => ("", "", "", false)
def tyX6 : Nat → FieldType := fun k => match k with
  | _ => .int
def RX7 : String := "BesideTom$TalkerKind"
def TX7 : u_T := fun k => match k with
  | _ => ("", "", "", false)
def tyX7 : Nat → FieldType := fun k => match k with
  | _ => .int
def RX8 : String := "BesideTom$ToldKind"
def TX8 : u_T := fun k => match k with
  | _ => ("", "", "", false)
def tyX8 : Nat → FieldType := fun k => match k with
  | _ => .int
def RX9 : String := "BesideTom$TomKind"
def TX9 : u_T := fun k => match k with
  | _ => ("", "", "", false)
def tyX9 : Nat → FieldType := fun k => match k with
  | _ => .int
def RX10 : String := "BesideTom$Trace"
def TX10 : u_T := fun k => match k with
  | 0 => ("BesideTom$Trace", "bodies", "[I", true)
  | 1 => ("BesideTom$Trace", "ran", "I", false)
  | 2 => ("BesideTom$Trace", "number", "I", false)
  | _ => ("BesideTom$Trace", "v", "I", false)
def tyX10 : Nat → FieldType := fun k => match k with
  | 0 => .array .int
  | 1 => .int
  | 2 => .int
  | _ => .int
def RX11 : String := "BesideTom"
def TX11 : u_T := fun k => match k with
  | 0 => ("BesideTom", "now", "LBesideTom$Seating;", true)
  | 1 => ("BesideTom", "asked", "LBesideTom$Seating;", true)
  | 2 => ("BesideTom", "kept", "LBesideTom$Seating;", true)
  | 3 => ("BesideTom", "imaged", "Z", false)
  | 4 => ("BesideTom", "rooms", "LBesideTom$Rooms;", true)
  | 5 => ("BesideTom", "trace", "LBesideTom$Trace;", true)
  | 6 => ("BesideTom", "plan", "[I", true)
  | 7 => ("BesideTom", "tapes", "[[J", true)
  | 8 => ("BesideTom", "sorts", "[I", true)
  | _ => ("BesideTom", "sizes", "[I", true)
def tyX11 : Nat → FieldType := fun k => match k with
  | 0 => .object "BesideTom$Seating"
  | 1 => .object "BesideTom$Seating"
  | 2 => .object "BesideTom$Seating"
  | 3 => .boolean
  | 4 => .object "BesideTom$Rooms"
  | 5 => .object "BesideTom$Trace"
  | 6 => .array .int
  | 7 => .array (.array .long)
  | 8 => .array .int
  | _ => .array .int
def RX12 : String := "BesideTomModel"
def TX12 : u_T := fun k => match k with
  | 0 => ("BesideTomModel", "pupils", "I", false)
  | 1 => ("BesideTomModel", "gone", "I", false)
  | 2 => ("BesideTomModel", "worn", "I", false)
  | 3 => ("BesideTomModel", "weeks", "I", false)
  | 4 => ("BesideTomModel", "kind", "[I", true)
  | 5 => ("BesideTomModel", "v", "[I", true)
  | 6 => ("BesideTomModel", "desk", "[I", true)
  | 7 => ("BesideTomModel", "knew", "[I", true)
  | 8 => ("BesideTomModel", "lines", "[I", true)
  | 9 => ("BesideTomModel", "rooms", "I", false)
  | 10 => ("BesideTomModel", "the", "I", false)
  | 11 => ("BesideTomModel", "fed", "I", false)
  | 12 => ("BesideTomModel", "at", "I", false)
  | 13 => ("BesideTomModel", "digits", "I", false)
  | 14 => ("BesideTomModel", "text", "[I", true)
  | 15 => ("BesideTomModel", "clauses", "[I", true)
  | 16 => ("BesideTomModel", "word", "[I", true)
  | 17 => ("BesideTomModel", "number", "[I", true)
  | 18 => ("BesideTomModel", "from", "[I", true)
  | 19 => ("BesideTomModel", "to", "[I", true)
  | 20 => ("BesideTomModel", "sign", "[I", true)
  | 21 => ("BesideTomModel", "waits", "[I", true)
  | 22 => ("BesideTomModel", "signs", "I", false)
  | 23 => ("BesideTomModel", "waiting", "I", false)
  | 24 => ("BesideTomModel", "open", "I", false)
  | 25 => ("BesideTomModel", "letters", "[I", true)
  | 26 => ("BesideTomModel", "pile", "[Z", true)
  | 27 => ("BesideTomModel", "mostKnown", "I", false)
  | 28 => ("BesideTomModel", "keptGone", "I", false)
  | 29 => ("BesideTomModel", "keptWorn", "I", false)
  | 30 => ("BesideTomModel", "keptWeeks", "I", false)
  | 31 => ("BesideTomModel", "keptDesk", "[I", true)
  | 32 => ("BesideTomModel", "keptKnew", "[I", true)
  | 33 => ("BesideTomModel", "bestDesk", "[I", true)
  | 34 => ("BesideTomModel", "heard", "I", false)
  | 35 => ("BesideTomModel", "heardNoise", "[I", true)
  | 36 => ("BesideTomModel", "heardWhen", "[I", true)
  | 37 => ("BesideTomModel", "terms", "I", false)
  | 38 => ("BesideTomModel", "books", "I", false)
  | 39 => ("BesideTomModel", "termWhat", "[I", true)
  | 40 => ("BesideTomModel", "termNumber", "[I", true)
  | 41 => ("BesideTomModel", "bookWho", "[I", true)
  | 42 => ("BesideTomModel", "bookDesk", "[I", true)
  | 43 => ("BesideTomModel", "hasImage", "Z", false)
  | 44 => ("BesideTomModel", "imageThe", "I", false)
  | 45 => ("BesideTomModel", "imagePupils", "I", false)
  | 46 => ("BesideTomModel", "imageGone", "I", false)
  | 47 => ("BesideTomModel", "imageWorn", "I", false)
  | 48 => ("BesideTomModel", "imageWeeks", "I", false)
  | 49 => ("BesideTomModel", "imageHeard", "I", false)
  | 50 => ("BesideTomModel", "imageTerms", "I", false)
  | 51 => ("BesideTomModel", "imageBooks", "I", false)
  | 52 => ("BesideTomModel", "imageKind", "[I", true)
  | 53 => ("BesideTomModel", "imageV", "[I", true)
  | 54 => ("BesideTomModel", "imageDesk", "[I", true)
  | 55 => ("BesideTomModel", "imageKnew", "[I", true)
  | 56 => ("BesideTomModel", "imageLines", "[I", true)
  | 57 => ("BesideTomModel", "imageNoise", "[I", true)
  | 58 => ("BesideTomModel", "imageWhen", "[I", true)
  | 59 => ("BesideTomModel", "imageWhat", "[I", true)
  | 60 => ("BesideTomModel", "imageNumber", "[I", true)
  | 61 => ("BesideTomModel", "imageBookWho", "[I", true)
  | 62 => ("BesideTomModel", "imageBookDesk", "[I", true)
  | 63 => ("BesideTomModel", "ran", "I", false)
  | 64 => ("BesideTomModel", "bodies", "[I", true)
  | 65 => ("BesideTomModel", "sort", "[I", true)
  | 66 => ("BesideTomModel", "length", "[I", true)
  | 67 => ("BesideTomModel", "item", "[J", true)
  | _ => ("BesideTomModel", "aside", "[J", true)
def tyX12 : Nat → FieldType := fun k => match k with
  | 0 => .int
  | 1 => .int
  | 2 => .int
  | 3 => .int
  | 4 => .array .int
  | 5 => .array .int
  | 6 => .array .int
  | 7 => .array .int
  | 8 => .array .int
  | 9 => .int
  | 10 => .int
  | 11 => .int
  | 12 => .int
  | 13 => .int
  | 14 => .array .int
  | 15 => .array .int
  | 16 => .array .int
  | 17 => .array .int
  | 18 => .array .int
  | 19 => .array .int
  | 20 => .array .int
  | 21 => .array .int
  | 22 => .int
  | 23 => .int
  | 24 => .int
  | 25 => .array .int
  | 26 => .array .boolean
  | 27 => .int
  | 28 => .int
  | 29 => .int
  | 30 => .int
  | 31 => .array .int
  | 32 => .array .int
  | 33 => .array .int
  | 34 => .int
  | 35 => .array .int
  | 36 => .array .int
  | 37 => .int
  | 38 => .int
  | 39 => .array .int
  | 40 => .array .int
  | 41 => .array .int
  | 42 => .array .int
  | 43 => .boolean
  | 44 => .int
  | 45 => .int
  | 46 => .int
  | 47 => .int
  | 48 => .int
  | 49 => .int
  | 50 => .int
  | 51 => .int
  | 52 => .array .int
  | 53 => .array .int
  | 54 => .array .int
  | 55 => .array .int
  | 56 => .array .int
  | 57 => .array .int
  | 58 => .array .int
  | 59 => .array .int
  | 60 => .array .int
  | 61 => .array .int
  | 62 => .array .int
  | 63 => .int
  | 64 => .array .int
  | 65 => .array .int
  | 66 => .array .int
  | 67 => .array .long
  | _ => .array .long
abbrev vwCl : List vw_C := [(RX0, TX0, 0), (RX1, TX1, 0), (RX2, TX2, 0), (RX3, TX3, 14), (RX4, TX4, 3), (RX5, TX5, 18), (RX6, TX6, 0), (RX7, TX7, 0), (RX8, TX8, 0), (RX9, TX9, 0), (RX10, TX10, 4), (RX11, TX11, 10), (RX12, TX12, 69)]
theorem in_X0 : ∀ w ∈ u_ws RX0 TX0 0, w ∈ gW := fun w h => absurd h (List.not_mem_nil)
theorem in_X1 : ∀ w ∈ u_ws RX1 TX1 0, w ∈ gW := fun w h => absurd h (List.not_mem_nil)
theorem in_X2 : ∀ w ∈ u_ws RX2 TX2 0, w ∈ gW := fun w h => absurd h (List.not_mem_nil)
set_option maxRecDepth 100000 in
theorem in_X3 : ∀ w ∈ u_ws RX3 TX3 14, w ∈ gW := gW_l _ [213, 215, 217, 219, 221, 223, 225, 227, 229, 231, 233, 235, 237, 239] (by decide +kernel) (by decide +kernel)
theorem nm_X3 : ∀ a, a < 14 → ∀ b, b < 14 → a ≠ b → (TX3 a).2.1 ≠ (TX3 b).2.1 := by decide +kernel
theorem ty_X3 : ∀ k, k < 14 → parseFieldDescriptor (TX3 k).2.2.1 = some (tyX3 k) := by decide +kernel
set_option maxRecDepth 100000 in
theorem in_X4 : ∀ w ∈ u_ws RX4 TX4 3, w ∈ gW := gW_l _ [107, 109, 111] (by decide +kernel) (by decide +kernel)
theorem nm_X4 : ∀ a, a < 3 → ∀ b, b < 3 → a ≠ b → (TX4 a).2.1 ≠ (TX4 b).2.1 := by decide +kernel
theorem ty_X4 : ∀ k, k < 3 → parseFieldDescriptor (TX4 k).2.2.1 = some (tyX4 k) := by decide +kernel
set_option maxRecDepth 100000 in
theorem in_X5 : ∀ w ∈ u_ws RX5 TX5 18, w ∈ gW := gW_l _ [151, 153, 155, 157, 159, 161, 163, 165, 167, 169, 171, 173, 175, 177, 179, 181, 183, 185] (by decide +kernel) (by decide +kernel)
theorem nm_X5 : ∀ a, a < 18 → ∀ b, b < 18 → a ≠ b → (TX5 a).2.1 ≠ (TX5 b).2.1 := by decide +kernel
theorem ty_X5 : ∀ k, k < 18 → parseFieldDescriptor (TX5 k).2.2.1 = some (tyX5 k) := by decide +kernel
theorem in_X6 : ∀ w ∈ u_ws RX6 TX6 0, w ∈ gW := fun w h => absurd h (List.not_mem_nil)
theorem in_X7 : ∀ w ∈ u_ws RX7 TX7 0, w ∈ gW := fun w h => absurd h (List.not_mem_nil)
theorem in_X8 : ∀ w ∈ u_ws RX8 TX8 0, w ∈ gW := fun w h => absurd h (List.not_mem_nil)
theorem in_X9 : ∀ w ∈ u_ws RX9 TX9 0, w ∈ gW := fun w h => absurd h (List.not_mem_nil)
set_option maxRecDepth 100000 in
theorem in_X10 : ∀ w ∈ u_ws RX10 TX10 4, w ∈ gW := gW_l _ [259, 261, 263, 265] (by decide +kernel) (by decide +kernel)
theorem nm_X10 : ∀ a, a < 4 → ∀ b, b < 4 → a ≠ b → (TX10 a).2.1 ≠ (TX10 b).2.1 := by decide +kernel
theorem ty_X10 : ∀ k, k < 4 → parseFieldDescriptor (TX10 k).2.2.1 = some (tyX10 k) := by decide +kernel
set_option maxRecDepth 100000 in
theorem in_X11 : ∀ w ∈ u_ws RX11 TX11 10, w ∈ gW := gW_l _ [278, 280, 282, 284, 286, 288, 290, 292, 294, 296] (by decide +kernel) (by decide +kernel)
theorem nm_X11 : ∀ a, a < 10 → ∀ b, b < 10 → a ≠ b → (TX11 a).2.1 ≠ (TX11 b).2.1 := by decide +kernel
theorem ty_X11 : ∀ k, k < 10 → parseFieldDescriptor (TX11 k).2.2.1 = some (tyX11 k) := by decide +kernel
set_option maxRecDepth 100000 in
theorem in_X12 : ∀ w ∈ u_ws RX12 TX12 69, w ∈ gW := gW_l _ [965, 967, 969, 971, 973, 975, 977, 979, 981, 983, 985, 987, 989, 991, 993, 995, 997, 999, 1001, 1003, 1005, 1007, 1009, 1011, 1013, 1015, 1017, 1019, 1021, 1023, 1025, 1027, 1029, 1031, 1033, 1035, 1037, 1039, 1041, 1043, 1045, 1047, 1049, 1051, 1053, 1055, 1057, 1059, 1061, 1063, 1065, 1067, 1069, 1071, 1073, 1075, 1077, 1079, 1081, 1083, 1085, 1087, 1089, 1091, 1093, 1095, 1097, 1099, 1101] (by decide +kernel) (by decide +kernel)
theorem nm_X12 : ∀ a, a < 69 → ∀ b, b < 69 → a ≠ b → (TX12 a).2.1 ≠ (TX12 b).2.1 := by decide +kernel
theorem ty_X12 : ∀ k, k < 69 → parseFieldDescriptor (TX12 k).2.2.1 = some (tyX12 k) := by decide +kernel
end
section
/-! The walk of methods in a world whose objects never move: memory is a function of cells and places; R says that a frame does what a partial function tells. -/
abbrev Mm : Type := Nat → Nat → Int32
abbrev Ml : Type := Nat → Nat → Int64
def up2 (μ : Mm) (b k : Nat) (x : Int32) : Mm := fun c => if c = b then upd (μ b) k x else μ c
def upL (ν : Ml) (b k : Nat) (x : Int64) : Ml := fun c => if c = b then vp_updL (ν b) k x else ν c
/-- a side: its cells' numbers, and each cell by what memory holds; what else of the start it needs -/
abbrev SD : Type := List Nat × ((Nat → Nat) → (Nat → ClassId) → Nat → (Nat → Int32) → (Nat → Int64) → va_E) × ((Nat → Nat) → (Nat → Prop) → State → Heap → Prop)
/-- launch, classes' numbers, addresses of cells, array classes -/
abbrev QT : Type := Launch × va_G × (Nat → Nat) × (Nat → ClassId)
def wd (sd : SD) (q : QT) (μ : Mm) (ν : Ml) : va_W := sd.1.map (fun b => (q.2.2.1 b, sd.2.1 q.2.2.1 q.2.2.2 b (μ b) (ν b)))
def tyl (q : QT) : List (ClassId × FieldType) := [(q.2.2.2 0, .int), (q.2.2.2 1, .byte), (q.2.2.2 2, .long), (q.2.2.2 3, .boolean), (q.2.2.2 4, .array .byte), (q.2.2.2 5, .array .long), (q.2.2.2 6, .object "BesideTom$PupilKind")]
def AA (sd : SD) (q : QT) (sz : Nat) : Nat → Prop := fun a => (∃ b ∈ sd.1, a = q.2.2.1 b) ∨ sz ≤ a
def ExtOk (ext : (Nat → Nat) → (Nat → Prop) → State → Heap → Prop) : Prop := ∀ (al : Nat → Nat) (A B : Nat → Prop) (U V : State) (H H1 : Heap), ext al A U H → (∀ a, B a → A a) → U.WarmedH V.vm → (∀ a : Nat, a < H.size → ¬ A a → H1[a]? = H[a]?) → ext al B V H1
def GOk (sd : SD) (q : QT) : Prop := sd.1.Nodup ∧ (∀ i ∈ sd.1, ∀ j ∈ sd.1, q.2.2.1 i = q.2.2.1 j → i = j) ∧ ExtOk sd.2.2
def wsG (y : MethodName) (cc : ByteArray) (maxL : Nat) (ret : Option FieldType) : List Cond := .code y cc maxL ret :: gW
def rmG (rk : Nat) : Room := { frames := rk, cells := 0, slots := 0, locals := 100 * rk }
def QG (sd : SD) (q : QT) (sz : Nat) (v : Option Value) (μ : Mm) (ν : Ml) : Array Value → State → Outcome → State → Prop := fun _ st oc t => oc = .returned v ∧ va_P q.2.1 vwCl (wd sd q μ ν) t.heap ∧ va_F (AA sd q sz) st t
def PG (sd : SD) (q : QT) (sz : Nat) (μ : Mm) (ν : Ml) : State → Prop := fun U => U.heap.size = sz ∧ va_P q.2.1 vwCl (wd sd q μ ν) U.heap ∧ va_K q.2.1 vwCl (tyl q) U ∧ sd.2.2 q.2.2.1 (AA sd q sz) U U.heap
/-- the contract of a method: from memory μ ν with arguments av it returns v, and memory is μ' ν' -/
def Ct (sd : SD) (q : QT) (y : MethodName) (cc : ByteArray) (maxL : Nat) (ret : Option FieldType) (rk : Nat) (av : List Value) (μ : Mm) (ν : Ml) (v : Option Value) (μ' : Mm) (ν' : Ml) : Prop :=
  ∀ sz : Nat, Met q.1 y (wsG y cc maxL ret) (rmG rk) (va_Pc av (PG sd q sz μ ν)) (QG sd q sz v μ' ν') 0 0 (AA sd q sz)
/-- a frame: program, room and so on -/
abbrev ZT : Type := (Program × Env × Room × State) × (MethodId × Array Value × List Frame × Method × Code)
def Ctx (sd : SD) (q : QT) (z : ZT) (cc : ByteArray) (own : String) (nL rk : Nat) (ret : Option FieldType) : Prop :=
  z.1.1.tables.exec = Jvm.exec ∧ z.2.2.2.2.2.code = cc ∧ z.2.2.2.2.2.maxLocals = nL ∧ z.1.2.2.2.vm.findClass own = some z.2.1.cls ∧ (∀ w ∈ gW, w.before z.2.2.1 z.1.2.2.2 = true) ∧ z.1.2.2.1 = rmG rk ∧ va_K q.2.1 vwCl (tyl q) z.1.2.2.2 ∧ sd.2.2 q.2.2.1 (AA sd q z.1.2.2.2.heap.size) z.1.2.2.2 z.1.2.2.2.heap ∧ z.2.2.2.2.1.locks = false ∧ z.2.2.2.2.1.sig.returnType = ret ∧ GOk sd q
def Wz (q : QT) (z : ZT) (H : Heap) (locs : List Loc) (Q : State → Prop) (g : JFrame) : Prop := W z.1.1 q.1 z.1.2.1 z.1.2.2.1 z.1.2.2.2 z.2.1 z.2.2.1 z.2.2.2.1 z.2.2.2.2.1 z.2.2.2.2.2 H locs 0 0 Q g
def Qz (sd : SD) (q : QT) (z : ZT) (o : Option Value × Mm × Ml) : State → Prop := MQ z.2.2.2.1 (QG sd q z.1.2.2.2.heap.size o.1 o.2.1 o.2.2) z.2.2.1 z.1.2.2.2 0 0 (AA sd q z.1.2.2.2.heap.size)
def R {β : Type} (sd : SD) (q : QT) (z : ZT) (nL : Nat) (φ : β → Option Value × Mm × Ml) (f : Option β) (μ : Mm) (ν : Ml) (pc : Nat) (lv : List (Nat × Value)) (st : List Value) : Prop :=
  ∀ out : β, f = some out → ∀ (ls : Array Slot) (H : Heap) (locs : List Loc), lv_has ls nL lv → va_P q.2.1 vwCl (wd sd q μ ν) H → va_S (AA sd q z.1.2.2.2.heap.size) z.1.2.2.2.heap H locs → Wz q z H locs (Qz sd q z (φ out)) (F0 z.2.1 pc ls st)
theorem wd_get {sd : SD} {q : QT} {μ : Mm} {ν : Ml} {b : Nat} (h : b ∈ sd.1) : ∃ i : Nat, sd.1[i]? = some b ∧ (wd sd q μ ν)[i]? = some (q.2.2.1 b, sd.2.1 q.2.2.1 q.2.2.2 b (μ b) (ν b)) := by
  obtain ⟨i, hi⟩ := List.getElem?_of_mem h
  exact ⟨i, hi, by unfold wd; rw [List.getElem?_map, hi]; rfl⟩
theorem wd_put {sd : SD} {q : QT} {μ μ' : Mm} {ν ν' : Ml} {b i : Nat} (hn : sd.1.Nodup) (hi : sd.1[i]? = some b) (hμ : ∀ c, c ≠ b → μ' c = μ c) (hν : ∀ c, c ≠ b → ν' c = ν c) {e : va_E} (he : sd.2.1 q.2.2.1 q.2.2.2 b (μ' b) (ν' b) = e) : (wd sd q μ ν).set i (q.2.2.1 b, e) = wd sd q μ' ν' := by
  subst he
  unfold wd
  apply List.ext_getElem?
  intro j
  have hl : i < sd.1.length := (List.getElem?_eq_some_iff.mp hi).1
  by_cases hj : j = i
  · subst hj
    rw [List.getElem?_set_self (by rw [List.length_map]; exact hl), List.getElem?_map, hi]
    rfl
  · rw [List.getElem?_set_ne (Ne.symm hj), List.getElem?_map, List.getElem?_map]
    cases hc : sd.1[j]? with
    | none => rfl
    | some c =>
      have hcb : c ≠ b := by
        intro hE
        subst hE
        have hl2 : j < sd.1.length := (List.getElem?_eq_some_iff.mp hc).1
        have := (List.getElem?_inj hl2 hn).mp (hc.trans hi.symm)
        exact hj this
      show some (q.2.2.1 c, sd.2.1 q.2.2.1 q.2.2.2 c (μ c) (ν c)) = some (q.2.2.1 c, sd.2.1 q.2.2.1 q.2.2.2 c (μ' c) (ν' c))
      rw [hμ c hcb, hν c hcb]
theorem wd_D {sd : SD} {q : QT} (hg : GOk sd q) (μ : Mm) (ν : Ml) (sz : Nat) : va_D (AA sd q sz) (wd sd q μ ν) := by
  unfold wd
  refine ⟨fun i j x y hi hj hxy => ?_, fun k x hk => ?_⟩
  · rw [List.getElem?_map] at hi hj
    cases h1 : sd.1[i]? with
    | none => rw [h1] at hi; cases hi
    | some b =>
      cases h2 : sd.1[j]? with
      | none => rw [h2] at hj; cases hj
      | some c =>
        rw [h1] at hi
        rw [h2] at hj
        cases hi
        cases hj
        have hbc := hg.2.1 b (List.mem_of_getElem? h1) c (List.mem_of_getElem? h2) hxy
        subst hbc
        exact (List.getElem?_inj (List.getElem?_eq_some_iff.mp h1).1 hg.1).mp (h1.trans h2.symm)
  · rw [List.getElem?_map] at hk
    cases h1 : sd.1[k]? with
    | none => rw [h1] at hk; cases hk
    | some b =>
      rw [h1] at hk
      cases hk
      exact Or.inl ⟨b, List.mem_of_getElem? h1, rfl⟩
theorem up2_ne {μ : Mm} {b k : Nat} {x : Int32} : ∀ c, c ≠ b → up2 μ b k x c = μ c := fun c h => if_neg h
theorem up2_eq {μ : Mm} {b k : Nat} {x : Int32} : up2 μ b k x b = upd (μ b) k x := if_pos rfl
theorem upL_ne {μ : Ml} {b k : Nat} {x : Int64} : ∀ c, c ≠ b → upL μ b k x c = μ c := fun c h => if_neg h
theorem upL_eq {μ : Ml} {b k : Nat} {x : Int64} : upL μ b k x b = vp_updL (μ b) k x := if_pos rfl
section RL
variable {β : Type} {sd : SD} {q : QT} {z : ZT} {cc : ByteArray} {own : String} {nL rk : Nat} {ret : Option FieldType} {φ : β → Option Value × Mm × Ml} {f : Option β} {μ : Mm} {ν : Ml} {pc : Nat} {lv : List (Nat × Value)} {st : List Value}
theorem R_none : R sd q z nL φ none μ ν pc lv st := fun _ h => by cases h
theorem R_eq {g : Option β} (h : f = g) (k : R sd q z nL φ g μ ν pc lv st) : R sd q z nL φ f μ ν pc lv st := h ▸ k
theorem R_sub {lv' : List (Nat × Value)} (ks : List Nat) (h : lv_pick lv ks = lv') (k : R sd q z nL φ f μ ν pc lv' st) : R sd q z nL φ f μ ν pc lv st := fun out ho ls H locs hl => k out ho ls H locs (lv_sub hl ks h)
theorem R_iconst (C : Ctx sd q z cc own nL rk ret) {n : Int} {v : Int32} (hd : decode cc pc = .ok (.iconst n, 1)) (hv : Int32.ofInt n = v) (k : R sd q z nL φ f μ ν (pc + 1) lv (.int v :: st)) : R sd q z nL φ f μ ν pc lv st := fun out ho ls H locs hl hP hS => lv_iconst C.1 C.2.1 hd hv (k out ho ls H locs hl hP hS)
theorem R_bipush (C : Ctx sd q z cc own nL rk ret) {n : Int} {v : Int32} (hd : decode cc pc = .ok (.bipush n, 2)) (hv : (Int8.ofInt n).toInt32 = v) (k : R sd q z nL φ f μ ν (pc + 2) lv (.int v :: st)) : R sd q z nL φ f μ ν pc lv st := fun out ho ls H locs hl hP hS => lv_bipush C.1 C.2.1 hd hv (k out ho ls H locs hl hP hS)
theorem R_sipush (C : Ctx sd q z cc own nL rk ret) {n : Int} {v : Int32} (hd : decode cc pc = .ok (.sipush n, 3)) (hv : (Int16.ofInt n).toInt32 = v) (k : R sd q z nL φ f μ ν (pc + 3) lv (.int v :: st)) : R sd q z nL φ f μ ν pc lv st := fun out ho ls H locs hl hP hS => lv_sipush C.1 C.2.1 hd hv (k out ho ls H locs hl hP hS)
theorem R_lconst (C : Ctx sd q z cc own nL rk ret) {n : Fin 2} {v : Int64} (hd : decode cc pc = .ok (.lconst n, 1)) (hv : Int64.ofNat (n : Nat) = v) (k : R sd q z nL φ f μ ν (pc + 1) lv (.long v :: st)) : R sd q z nL φ f μ ν pc lv st := fun out ho ls H locs hl hP hS => lv_lconst C.1 C.2.1 hd hv (k out ho ls H locs hl hP hS)
theorem R_ldc (C : Ctx sd q z cc own nL rk ret) {index : Nat} {v : Int32} (hw : Cond.constant own index v ∈ gW) (hd : decode cc pc = .ok (.ldc index, 2)) (k : R sd q z nL φ f μ ν (pc + 2) lv (.int v :: st)) : R sd q z nL φ f μ ν pc lv st := fun out ho ls H locs hl hP hS => W.ldc C.1 C.2.1 C.2.2.2.1 (C.2.2.2.2.1 _ hw) rfl hd (k out ho ls H locs hl hP hS)
theorem R_ldc2 (C : Ctx sd q z cc own nL rk ret) {index : Nat} {v : Int64} (hw : Cond.constantLong own index v ∈ gW) (hd : decode cc pc = .ok (.ldc2_w index, 3)) (k : R sd q z nL φ f μ ν (pc + 3) lv (.long v :: st)) : R sd q z nL φ f μ ν pc lv st := fun out ho ls H locs hl hP hS => W.ldc2 C.1 C.2.1 C.2.2.2.1 (C.2.2.2.2.1 _ hw) rfl hd (k out ho ls H locs hl hP hS)
theorem R_iload_n (C : Ctx sd q z cc own nL rk ret) {k' : Fin 4} {i : Nat} {x : Int32} (j : Nat) (hd : decode cc pc = .ok (.iload_n k', 1)) (hi : (k' : Nat) = i) (hj : lv[j]? = some (i, .int x)) (k : R sd q z nL φ f μ ν (pc + 1) lv (.int x :: st)) : R sd q z nL φ f μ ν pc lv st := fun out ho ls H locs hl hP hS => lv_iload_n C.1 C.2.1 hd hi (lv_at hl j hj) (k out ho ls H locs hl hP hS)
theorem R_iload (C : Ctx sd q z cc own nL rk ret) {i : Nat} {x : Int32} (j : Nat) (hd : decode cc pc = .ok (.iload i, 2)) (hj : lv[j]? = some (i, .int x)) (k : R sd q z nL φ f μ ν (pc + 2) lv (.int x :: st)) : R sd q z nL φ f μ ν pc lv st := fun out ho ls H locs hl hP hS => lv_iload C.1 C.2.1 hd (lv_at hl j hj) (k out ho ls H locs hl hP hS)
theorem R_lload_n (C : Ctx sd q z cc own nL rk ret) {k' : Fin 4} {i : Nat} {x : Int64} (j : Nat) (hd : decode cc pc = .ok (.lload_n k', 1)) (hi : (k' : Nat) = i) (hj : lv[j]? = some (i, .long x)) (k : R sd q z nL φ f μ ν (pc + 1) lv (.long x :: st)) : R sd q z nL φ f μ ν pc lv st := fun out ho ls H locs hl hP hS => lv_lload_n C.1 C.2.1 hd hi (lv_at hl j hj) (k out ho ls H locs hl hP hS)
theorem R_lload (C : Ctx sd q z cc own nL rk ret) {i : Nat} {x : Int64} (j : Nat) (hd : decode cc pc = .ok (.lload i, 2)) (hj : lv[j]? = some (i, .long x)) (k : R sd q z nL φ f μ ν (pc + 2) lv (.long x :: st)) : R sd q z nL φ f μ ν pc lv st := fun out ho ls H locs hl hP hS => lv_lload C.1 C.2.1 hd (lv_at hl j hj) (k out ho ls H locs hl hP hS)
theorem R_aload_n (C : Ctx sd q z cc own nL rk ret) {k' : Fin 4} {i : Nat} {x : Nat} (j : Nat) (hd : decode cc pc = .ok (.aload_n k', 1)) (hi : (k' : Nat) = i) (hj : lv[j]? = some (i, .ref x)) (k : R sd q z nL φ f μ ν (pc + 1) lv (.ref x :: st)) : R sd q z nL φ f μ ν pc lv st := fun out ho ls H locs hl hP hS => lv_aload_n C.1 C.2.1 hd hi (lv_at hl j hj) (k out ho ls H locs hl hP hS)
theorem R_aload (C : Ctx sd q z cc own nL rk ret) {i : Nat} {x : Nat} (j : Nat) (hd : decode cc pc = .ok (.aload i, 2)) (hj : lv[j]? = some (i, .ref x)) (k : R sd q z nL φ f μ ν (pc + 2) lv (.ref x :: st)) : R sd q z nL φ f μ ν pc lv st := fun out ho ls H locs hl hP hS => lv_aload C.1 C.2.1 hd (lv_at hl j hj) (k out ho ls H locs hl hP hS)
theorem R_istore_n (C : Ctx sd q z cc own nL rk ret) {k' : Fin 4} {i : Nat} {x : Int32} {lv' : List (Nat × Value)} (hd : decode cc pc = .ok (.istore_n k', 1)) (hi : (k' : Nat) = i) (hn : i < nL) (hl' : (i, Value.int x) :: lv.filter (fun q => !(q.1 == i) && !(q.1 + 1 == i && q.2.category == 2)) = lv') (k : R sd q z nL φ f μ ν (pc + 1) lv' st) : R sd q z nL φ f μ ν pc lv (.int x :: st) := fun out ho ls H locs hl hP hS => lv_istore_n C.1 C.2.1 hd hi hl hn hl' (fun ls' h' => k out ho ls' H locs h' hP hS)
theorem R_istore (C : Ctx sd q z cc own nL rk ret) {i : Nat} {x : Int32} {lv' : List (Nat × Value)} (hd : decode cc pc = .ok (.istore i, 2)) (hn : i < nL) (hl' : (i, Value.int x) :: lv.filter (fun q => !(q.1 == i) && !(q.1 + 1 == i && q.2.category == 2)) = lv') (k : R sd q z nL φ f μ ν (pc + 2) lv' st) : R sd q z nL φ f μ ν pc lv (.int x :: st) := fun out ho ls H locs hl hP hS => lv_istore C.1 C.2.1 hd hl hn hl' (fun ls' h' => k out ho ls' H locs h' hP hS)
theorem R_lstore_n (C : Ctx sd q z cc own nL rk ret) {k' : Fin 4} {i : Nat} {x : Int64} {lv' : List (Nat × Value)} (hd : decode cc pc = .ok (.lstore_n k', 1)) (hi : (k' : Nat) = i) (hn : i + 1 < nL) (hl' : (i, Value.long x) :: lv.filter (fun q => !(q.1 == i) && (!(q.1 == i + 1) && !(q.1 + 1 == i && q.2.category == 2))) = lv') (k : R sd q z nL φ f μ ν (pc + 1) lv' st) : R sd q z nL φ f μ ν pc lv (.long x :: st) := fun out ho ls H locs hl hP hS => lv_lstore_n C.1 C.2.1 hd hi hl hn hl' (fun ls' h' => k out ho ls' H locs h' hP hS)
theorem R_iinc (C : Ctx sd q z cc own nL rk ret) {i : Nat} {n : Int} {x v : Int32} {lv' : List (Nat × Value)} (j : Nat) (hd : decode cc pc = .ok (.iinc i n, 3)) (hj : lv[j]? = some (i, .int x)) (hv : x + Int32.ofInt n = v) (hn : i < nL) (hl' : (i, Value.int v) :: lv.filter (fun q => !(q.1 == i) && !(q.1 + 1 == i && q.2.category == 2)) = lv') (k : R sd q z nL φ f μ ν (pc + 3) lv' st) : R sd q z nL φ f μ ν pc lv st := fun out ho ls H locs hl hP hS => lv_iinc C.1 C.2.1 hd hl hj hv hn hl' (fun ls' h' => k out ho ls' H locs h' hP hS)
theorem R_dup (C : Ctx sd q z cc own nL rk ret) {va : Value} (hd : decode cc pc = .ok (.dup, 1)) (hva : va.category = 1) (k : R sd q z nL φ f μ ν (pc + 1) lv (va :: va :: st)) : R sd q z nL φ f μ ν pc lv (va :: st) := fun out ho ls H locs hl hP hS => lv_dup C.1 C.2.1 hd hva (k out ho ls H locs hl hP hS)
theorem R_pop (C : Ctx sd q z cc own nL rk ret) {va : Value} (hd : decode cc pc = .ok (.pop, 1)) (hva : va.category = 1) (k : R sd q z nL φ f μ ν (pc + 1) lv st) : R sd q z nL φ f μ ν pc lv (va :: st) := fun out ho ls H locs hl hP hS => lv_pop C.1 C.2.1 hd hva (k out ho ls H locs hl hP hS)
theorem R_dup_x1 (C : Ctx sd q z cc own nL rk ret) {va vb : Value} (hd : decode cc pc = .ok (.dup_x1, 1)) (hva : va.category = 1) (hvb : vb.category = 1) (k : R sd q z nL φ f μ ν (pc + 1) lv (va :: vb :: va :: st)) : R sd q z nL φ f μ ν pc lv (va :: vb :: st) := fun out ho ls H locs hl hP hS => lv_dup_x1 C.1 C.2.1 hd hva hvb (k out ho ls H locs hl hP hS)
theorem R_dup_x2 (C : Ctx sd q z cc own nL rk ret) {va vb vd : Value} (hd : decode cc pc = .ok (.dup_x2, 1)) (hva : va.category = 1) (hvb : vb.category = 1) (hvd : vd.category = 1) (k : R sd q z nL φ f μ ν (pc + 1) lv (va :: vb :: vd :: va :: st)) : R sd q z nL φ f μ ν pc lv (va :: vb :: vd :: st) := fun out ho ls H locs hl hP hS => lv_dup_x2 C.1 C.2.1 hd hva hvb hvd (k out ho ls H locs hl hP hS)
theorem R_dup2 (C : Ctx sd q z cc own nL rk ret) {va vb : Value} (hd : decode cc pc = .ok (.dup2, 1)) (hva : va.category = 1) (hvb : vb.category = 1) (k : R sd q z nL φ f μ ν (pc + 1) lv (va :: vb :: va :: vb :: st)) : R sd q z nL φ f μ ν pc lv (va :: vb :: st) := fun out ho ls H locs hl hP hS => lv_dup2_11 C.1 C.2.1 hd hva hvb (k out ho ls H locs hl hP hS)
theorem R_goto (C : Ctx sd q z cc own nL rk ret) {off : Int} {tgt : Nat} (hd : decode cc pc = .ok (.goto off, 3)) (ht : (pc : Int) + off = (tgt : Int)) (k : R sd q z nL φ f μ ν tgt lv st) : R sd q z nL φ f μ ν pc lv st := fun out ho ls H locs hl hP hS => lv_goto C.1 C.2.1 hd ht (k out ho ls H locs hl hP hS)
theorem R_iadd (C : Ctx sd q z cc own nL rk ret) {x y : Int32} (hd : decode cc pc = .ok (.iadd, 1)) (k : R sd q z nL φ f μ ν (pc + 1) lv (.int (x + y) :: st)) : R sd q z nL φ f μ ν pc lv (.int y :: .int x :: st) := fun out ho ls H locs hl hP hS => lv_iadd C.1 C.2.1 hd (k out ho ls H locs hl hP hS)
theorem R_isub (C : Ctx sd q z cc own nL rk ret) {x y : Int32} (hd : decode cc pc = .ok (.isub, 1)) (k : R sd q z nL φ f μ ν (pc + 1) lv (.int (x - y) :: st)) : R sd q z nL φ f μ ν pc lv (.int y :: .int x :: st) := fun out ho ls H locs hl hP hS => lv_isub C.1 C.2.1 hd (k out ho ls H locs hl hP hS)
theorem R_imul (C : Ctx sd q z cc own nL rk ret) {x y : Int32} (hd : decode cc pc = .ok (.imul, 1)) (k : R sd q z nL φ f μ ν (pc + 1) lv (.int (x * y) :: st)) : R sd q z nL φ f μ ν pc lv (.int y :: .int x :: st) := fun out ho ls H locs hl hP hS => lv_imul C.1 C.2.1 hd (k out ho ls H locs hl hP hS)
theorem R_iand (C : Ctx sd q z cc own nL rk ret) {x y : Int32} (hd : decode cc pc = .ok (.iand, 1)) (k : R sd q z nL φ f μ ν (pc + 1) lv (.int (x &&& y) :: st)) : R sd q z nL φ f μ ν pc lv (.int y :: .int x :: st) := fun out ho ls H locs hl hP hS => lv_iand C.1 C.2.1 hd (k out ho ls H locs hl hP hS)
theorem R_ior (C : Ctx sd q z cc own nL rk ret) {x y : Int32} (hd : decode cc pc = .ok (.ior, 1)) (k : R sd q z nL φ f μ ν (pc + 1) lv (.int (x ||| y) :: st)) : R sd q z nL φ f μ ν pc lv (.int y :: .int x :: st) := fun out ho ls H locs hl hP hS => lv_ior C.1 C.2.1 hd (k out ho ls H locs hl hP hS)
theorem R_ixor (C : Ctx sd q z cc own nL rk ret) {x y : Int32} (hd : decode cc pc = .ok (.ixor, 1)) (k : R sd q z nL φ f μ ν (pc + 1) lv (.int (x ^^^ y) :: st)) : R sd q z nL φ f μ ν pc lv (.int y :: .int x :: st) := fun out ho ls H locs hl hP hS => lv_ixor C.1 C.2.1 hd (k out ho ls H locs hl hP hS)
theorem R_ishl (C : Ctx sd q z cc own nL rk ret) {x y : Int32} (hd : decode cc pc = .ok (.ishl, 1)) (k : R sd q z nL φ f μ ν (pc + 1) lv (.int (x <<< (y &&& 31)) :: st)) : R sd q z nL φ f μ ν pc lv (.int y :: .int x :: st) := fun out ho ls H locs hl hP hS => lv_ishl C.1 C.2.1 hd (k out ho ls H locs hl hP hS)
theorem R_ishr (C : Ctx sd q z cc own nL rk ret) {x y : Int32} (hd : decode cc pc = .ok (.ishr, 1)) (k : R sd q z nL φ f μ ν (pc + 1) lv (.int (x >>> (y &&& 31)) :: st)) : R sd q z nL φ f μ ν pc lv (.int y :: .int x :: st) := fun out ho ls H locs hl hP hS => lv_ishr C.1 C.2.1 hd (k out ho ls H locs hl hP hS)
theorem R_ladd (C : Ctx sd q z cc own nL rk ret) {x y : Int64} (hd : decode cc pc = .ok (.ladd, 1)) (k : R sd q z nL φ f μ ν (pc + 1) lv (.long (x + y) :: st)) : R sd q z nL φ f μ ν pc lv (.long y :: .long x :: st) := fun out ho ls H locs hl hP hS => lv_ladd C.1 C.2.1 hd (k out ho ls H locs hl hP hS)
theorem R_lsub (C : Ctx sd q z cc own nL rk ret) {x y : Int64} (hd : decode cc pc = .ok (.lsub, 1)) (k : R sd q z nL φ f μ ν (pc + 1) lv (.long (x - y) :: st)) : R sd q z nL φ f μ ν pc lv (.long y :: .long x :: st) := fun out ho ls H locs hl hP hS => lv_lsub C.1 C.2.1 hd (k out ho ls H locs hl hP hS)
theorem R_lor (C : Ctx sd q z cc own nL rk ret) {x y : Int64} (hd : decode cc pc = .ok (.lor, 1)) (k : R sd q z nL φ f μ ν (pc + 1) lv (.long (x ||| y) :: st)) : R sd q z nL φ f μ ν pc lv (.long y :: .long x :: st) := fun out ho ls H locs hl hP hS => lv_lor C.1 C.2.1 hd (k out ho ls H locs hl hP hS)
theorem R_land (C : Ctx sd q z cc own nL rk ret) {x y : Int64} (hd : decode cc pc = .ok (.land, 1)) (k : R sd q z nL φ f μ ν (pc + 1) lv (.long (x &&& y) :: st)) : R sd q z nL φ f μ ν pc lv (.long y :: .long x :: st) := fun out ho ls H locs hl hP hS => lv_land C.1 C.2.1 hd (k out ho ls H locs hl hP hS)
theorem R_iushr (C : Ctx sd q z cc own nL rk ret) {x y : Int32} (hd : decode cc pc = .ok (.iushr, 1)) (k : R sd q z nL φ f μ ν (pc + 1) lv (.int (x.toUInt32 >>> (y.toUInt32 &&& Int32.toUInt32 31)).toInt32 :: st)) : R sd q z nL φ f μ ν pc lv (.int y :: .int x :: st) := fun out ho ls H locs hl hP hS => lv_iushr C.1 C.2.1 hd rfl (k out ho ls H locs hl hP hS)
theorem R_lshl (C : Ctx sd q z cc own nL rk ret) {x : Int64} {y : Int32} (hd : decode cc pc = .ok (.lshl, 1)) (k : R sd q z nL φ f μ ν (pc + 1) lv (.long (x <<< (y.toInt64 &&& 63)) :: st)) : R sd q z nL φ f μ ν pc lv (.int y :: .long x :: st) := fun out ho ls H locs hl hP hS => lv_lshl C.1 C.2.1 hd rfl (k out ho ls H locs hl hP hS)
theorem R_ineg (C : Ctx sd q z cc own nL rk ret) {x : Int32} (hd : decode cc pc = .ok (.ineg, 1)) (k : R sd q z nL φ f μ ν (pc + 1) lv (.int (-x) :: st)) : R sd q z nL φ f μ ν pc lv (.int x :: st) := fun out ho ls H locs hl hP hS => lv_ineg C.1 C.2.1 hd (k out ho ls H locs hl hP hS)
theorem R_i2l (C : Ctx sd q z cc own nL rk ret) {x : Int32} (hd : decode cc pc = .ok (.i2l, 1)) (k : R sd q z nL φ f μ ν (pc + 1) lv (.long x.toInt64 :: st)) : R sd q z nL φ f μ ν pc lv (.int x :: st) := fun out ho ls H locs hl hP hS => lv_i2l C.1 C.2.1 hd rfl (k out ho ls H locs hl hP hS)
theorem R_l2i (C : Ctx sd q z cc own nL rk ret) {x : Int64} (hd : decode cc pc = .ok (.l2i, 1)) (k : R sd q z nL φ f μ ν (pc + 1) lv (.int x.toInt32 :: st)) : R sd q z nL φ f μ ν pc lv (.long x :: st) := fun out ho ls H locs hl hP hS => lv_l2i C.1 C.2.1 hd rfl (k out ho ls H locs hl hP hS)
theorem R_i2b (C : Ctx sd q z cc own nL rk ret) {x : Int32} (hd : decode cc pc = .ok (.i2b, 1)) (k : R sd q z nL φ f μ ν (pc + 1) lv (.int x.toInt8.toInt32 :: st)) : R sd q z nL φ f μ ν pc lv (.int x :: st) := fun out ho ls H locs hl hP hS => lv_i2b C.1 C.2.1 hd rfl (k out ho ls H locs hl hP hS)
theorem R_i2s (C : Ctx sd q z cc own nL rk ret) {x : Int32} (hd : decode cc pc = .ok (.i2s, 1)) (k : R sd q z nL φ f μ ν (pc + 1) lv (.int x.toInt16.toInt32 :: st)) : R sd q z nL φ f μ ν pc lv (.int x :: st) := fun out ho ls H locs hl hP hS => lv_i2s C.1 C.2.1 hd rfl (k out ho ls H locs hl hP hS)
theorem R_i2c (C : Ctx sd q z cc own nL rk ret) {x : Int32} (hd : decode cc pc = .ok (.i2c, 1)) (k : R sd q z nL φ f μ ν (pc + 1) lv (.int (x.toUInt32 % 65536).toInt32 :: st)) : R sd q z nL φ f μ ν pc lv (.int x :: st) := fun out ho ls H locs hl hP hS => lv_i2c C.1 C.2.1 hd rfl (k out ho ls H locs hl hP hS)
theorem R_lcmp (C : Ctx sd q z cc own nL rk ret) {x y : Int64} (hd : decode cc pc = .ok (.lcmp, 1)) (k : R sd q z nL φ f μ ν (pc + 1) lv (.int (lg_cmp x y) :: st)) : R sd q z nL φ f μ ν pc lv (.long y :: .long x :: st) := fun out ho ls H locs hl hP hS => W.lcmp C.1 C.2.1 hd (k out ho ls H locs hl hP hS)
theorem R_idiv (C : Ctx sd q z cc own nL rk ret) {x y : Int32} (hd : decode cc pc = .ok (.idiv, 1)) (hy : ¬ y = 0) (k : R sd q z nL φ f μ ν (pc + 1) lv (.int (x / y) :: st)) : R sd q z nL φ f μ ν pc lv (.int y :: .int x :: st) := fun out ho ls H locs hl hP hS => lv_idiv C.1 C.2.1 hd hy (k out ho ls H locs hl hP hS)
theorem R_idivG (C : Ctx sd q z cc own nL rk ret) {x y : Int32} (hd : decode cc pc = .ok (.idiv, 1)) (k : R sd q z nL φ f μ ν (pc + 1) lv (.int (x / y) :: st)) : R sd q z nL φ (if y = 0 then none else f) μ ν pc lv (.int y :: .int x :: st) := by
  by_cases hy : y = 0
  · rw [if_pos hy]
    exact R_none
  · rw [if_neg hy]
    exact R_idiv C hd hy k
theorem R_irem (C : Ctx sd q z cc own nL rk ret) {x y : Int32} (hd : decode cc pc = .ok (.irem, 1)) (hy : ¬ y = 0) (k : R sd q z nL φ f μ ν (pc + 1) lv (.int (x - x / y * y) :: st)) : R sd q z nL φ f μ ν pc lv (.int y :: .int x :: st) := fun out ho ls H locs hl hP hS => lv_irem C.1 C.2.1 hd hy (k out ho ls H locs hl hP hS)
theorem R_iremG (C : Ctx sd q z cc own nL rk ret) {x y : Int32} (hd : decode cc pc = .ok (.irem, 1)) (k : R sd q z nL φ f μ ν (pc + 1) lv (.int (x - x / y * y) :: st)) : R sd q z nL φ (if y = 0 then none else f) μ ν pc lv (.int y :: .int x :: st) := by
  by_cases hy : y = 0
  · rw [if_pos hy]
    exact R_none
  · rw [if_neg hy]
    exact R_irem C hd hy k
theorem R_ite {c : Prop} [Decidable c] {f1 f2 : Option β} (k1 : c → R sd q z nL φ f1 μ ν pc lv st) (k2 : ¬ c → R sd q z nL φ f2 μ ν pc lv st) : R sd q z nL φ (if c then f1 else f2) μ ν pc lv st := by
  by_cases h : c
  · rw [if_pos h]
    exact k1 h
  · rw [if_neg h]
    exact k2 h
theorem R_if_eq (C : Ctx sd q z cc own nL rk ret) {x : Int32} {off : Int} {tgt : Nat} {f1 f2 : Option β} (hd : decode cc pc = .ok (.ifCond .eq off, 3)) (ht : (pc : Int) + off = (tgt : Int)) (k1 : R sd q z nL φ f1 μ ν tgt lv st) (k2 : R sd q z nL φ f2 μ ν (pc + 3) lv st) : R sd q z nL φ (if x = 0 then f1 else f2) μ ν pc lv (.int x :: st) := R_ite (fun h => fun out ho ls H locs hl hP hS => lv_if_eq C.1 C.2.1 hd ht (fun _ => k1 out ho ls H locs hl hP hS) (fun h2 => absurd h h2)) (fun h => fun out ho ls H locs hl hP hS => lv_if_eq C.1 C.2.1 hd ht (fun h2 => absurd h2 h) (fun _ => k2 out ho ls H locs hl hP hS))
theorem R_if_lt (C : Ctx sd q z cc own nL rk ret) {x : Int32} {off : Int} {tgt : Nat} {f1 f2 : Option β} (hd : decode cc pc = .ok (.ifCond .lt off, 3)) (ht : (pc : Int) + off = (tgt : Int)) (k1 : R sd q z nL φ f1 μ ν tgt lv st) (k2 : R sd q z nL φ f2 μ ν (pc + 3) lv st) : R sd q z nL φ (if x < 0 then f1 else f2) μ ν pc lv (.int x :: st) := R_ite (fun h => fun out ho ls H locs hl hP hS => lv_if_lt C.1 C.2.1 hd ht (fun _ => k1 out ho ls H locs hl hP hS) (fun h2 => absurd h h2)) (fun h => fun out ho ls H locs hl hP hS => lv_if_lt C.1 C.2.1 hd ht (fun h2 => absurd h2 h) (fun _ => k2 out ho ls H locs hl hP hS))
theorem R_if_ge (C : Ctx sd q z cc own nL rk ret) {x : Int32} {off : Int} {tgt : Nat} {f1 f2 : Option β} (hd : decode cc pc = .ok (.ifCond .ge off, 3)) (ht : (pc : Int) + off = (tgt : Int)) (k1 : R sd q z nL φ f1 μ ν tgt lv st) (k2 : R sd q z nL φ f2 μ ν (pc + 3) lv st) : R sd q z nL φ (if 0 ≤ x then f1 else f2) μ ν pc lv (.int x :: st) := R_ite (fun h => fun out ho ls H locs hl hP hS => lv_if_ge C.1 C.2.1 hd ht (fun _ => k1 out ho ls H locs hl hP hS) (fun h2 => absurd h h2)) (fun h => fun out ho ls H locs hl hP hS => lv_if_ge C.1 C.2.1 hd ht (fun h2 => absurd h2 h) (fun _ => k2 out ho ls H locs hl hP hS))
theorem R_if_gt (C : Ctx sd q z cc own nL rk ret) {x : Int32} {off : Int} {tgt : Nat} {f1 f2 : Option β} (hd : decode cc pc = .ok (.ifCond .gt off, 3)) (ht : (pc : Int) + off = (tgt : Int)) (k1 : R sd q z nL φ f1 μ ν tgt lv st) (k2 : R sd q z nL φ f2 μ ν (pc + 3) lv st) : R sd q z nL φ (if 0 < x then f1 else f2) μ ν pc lv (.int x :: st) := R_ite (fun h => fun out ho ls H locs hl hP hS => lv_if_gt C.1 C.2.1 hd ht (fun _ => k1 out ho ls H locs hl hP hS) (fun h2 => absurd h h2)) (fun h => fun out ho ls H locs hl hP hS => lv_if_gt C.1 C.2.1 hd ht (fun h2 => absurd h2 h) (fun _ => k2 out ho ls H locs hl hP hS))
theorem R_if_le (C : Ctx sd q z cc own nL rk ret) {x : Int32} {off : Int} {tgt : Nat} {f1 f2 : Option β} (hd : decode cc pc = .ok (.ifCond .le off, 3)) (ht : (pc : Int) + off = (tgt : Int)) (k1 : R sd q z nL φ f1 μ ν tgt lv st) (k2 : R sd q z nL φ f2 μ ν (pc + 3) lv st) : R sd q z nL φ (if x ≤ 0 then f1 else f2) μ ν pc lv (.int x :: st) := R_ite (fun h => fun out ho ls H locs hl hP hS => lv_if_le C.1 C.2.1 hd ht (fun _ => k1 out ho ls H locs hl hP hS) (fun h2 => absurd h h2)) (fun h => fun out ho ls H locs hl hP hS => lv_if_le C.1 C.2.1 hd ht (fun h2 => absurd h2 h) (fun _ => k2 out ho ls H locs hl hP hS))
theorem R_if_ne (C : Ctx sd q z cc own nL rk ret) {x : Int32} {off : Int} {tgt : Nat} {f1 f2 : Option β} (hd : decode cc pc = .ok (.ifCond .ne off, 3)) (ht : (pc : Int) + off = (tgt : Int)) (k1 : R sd q z nL φ f1 μ ν tgt lv st) (k2 : R sd q z nL φ f2 μ ν (pc + 3) lv st) : R sd q z nL φ (if x = 0 then f2 else f1) μ ν pc lv (.int x :: st) := R_ite (fun h => fun out ho ls H locs hl hP hS => lv_if_ne C.1 C.2.1 hd ht (fun h2 => absurd h h2) (fun _ => k2 out ho ls H locs hl hP hS)) (fun h => fun out ho ls H locs hl hP hS => lv_if_ne C.1 C.2.1 hd ht (fun _ => k1 out ho ls H locs hl hP hS) (fun h2 => absurd h2 h))
theorem R_icmp_eq (C : Ctx sd q z cc own nL rk ret) {x y : Int32} {off : Int} {tgt : Nat} {f1 f2 : Option β} (hd : decode cc pc = .ok (.if_icmp .eq off, 3)) (ht : (pc : Int) + off = (tgt : Int)) (k1 : R sd q z nL φ f1 μ ν tgt lv st) (k2 : R sd q z nL φ f2 μ ν (pc + 3) lv st) : R sd q z nL φ (if x = y then f1 else f2) μ ν pc lv (.int y :: .int x :: st) := R_ite (fun h => fun out ho ls H locs hl hP hS => lv_icmp_eq C.1 C.2.1 hd ht (fun _ => k1 out ho ls H locs hl hP hS) (fun h2 => absurd h h2)) (fun h => fun out ho ls H locs hl hP hS => lv_icmp_eq C.1 C.2.1 hd ht (fun h2 => absurd h2 h) (fun _ => k2 out ho ls H locs hl hP hS))
theorem R_icmp_lt (C : Ctx sd q z cc own nL rk ret) {x y : Int32} {off : Int} {tgt : Nat} {f1 f2 : Option β} (hd : decode cc pc = .ok (.if_icmp .lt off, 3)) (ht : (pc : Int) + off = (tgt : Int)) (k1 : R sd q z nL φ f1 μ ν tgt lv st) (k2 : R sd q z nL φ f2 μ ν (pc + 3) lv st) : R sd q z nL φ (if x < y then f1 else f2) μ ν pc lv (.int y :: .int x :: st) := R_ite (fun h => fun out ho ls H locs hl hP hS => lv_icmp_lt C.1 C.2.1 hd ht (fun _ => k1 out ho ls H locs hl hP hS) (fun h2 => absurd h h2)) (fun h => fun out ho ls H locs hl hP hS => lv_icmp_lt C.1 C.2.1 hd ht (fun h2 => absurd h2 h) (fun _ => k2 out ho ls H locs hl hP hS))
theorem R_icmp_ge (C : Ctx sd q z cc own nL rk ret) {x y : Int32} {off : Int} {tgt : Nat} {f1 f2 : Option β} (hd : decode cc pc = .ok (.if_icmp .ge off, 3)) (ht : (pc : Int) + off = (tgt : Int)) (k1 : R sd q z nL φ f1 μ ν tgt lv st) (k2 : R sd q z nL φ f2 μ ν (pc + 3) lv st) : R sd q z nL φ (if y ≤ x then f1 else f2) μ ν pc lv (.int y :: .int x :: st) := R_ite (fun h => fun out ho ls H locs hl hP hS => lv_icmp_ge C.1 C.2.1 hd ht (fun _ => k1 out ho ls H locs hl hP hS) (fun h2 => absurd h h2)) (fun h => fun out ho ls H locs hl hP hS => lv_icmp_ge C.1 C.2.1 hd ht (fun h2 => absurd h2 h) (fun _ => k2 out ho ls H locs hl hP hS))
theorem R_icmp_gt (C : Ctx sd q z cc own nL rk ret) {x y : Int32} {off : Int} {tgt : Nat} {f1 f2 : Option β} (hd : decode cc pc = .ok (.if_icmp .gt off, 3)) (ht : (pc : Int) + off = (tgt : Int)) (k1 : R sd q z nL φ f1 μ ν tgt lv st) (k2 : R sd q z nL φ f2 μ ν (pc + 3) lv st) : R sd q z nL φ (if y < x then f1 else f2) μ ν pc lv (.int y :: .int x :: st) := R_ite (fun h => fun out ho ls H locs hl hP hS => lv_icmp_gt C.1 C.2.1 hd ht (fun _ => k1 out ho ls H locs hl hP hS) (fun h2 => absurd h h2)) (fun h => fun out ho ls H locs hl hP hS => lv_icmp_gt C.1 C.2.1 hd ht (fun h2 => absurd h2 h) (fun _ => k2 out ho ls H locs hl hP hS))
theorem R_icmp_le (C : Ctx sd q z cc own nL rk ret) {x y : Int32} {off : Int} {tgt : Nat} {f1 f2 : Option β} (hd : decode cc pc = .ok (.if_icmp .le off, 3)) (ht : (pc : Int) + off = (tgt : Int)) (k1 : R sd q z nL φ f1 μ ν tgt lv st) (k2 : R sd q z nL φ f2 μ ν (pc + 3) lv st) : R sd q z nL φ (if x ≤ y then f1 else f2) μ ν pc lv (.int y :: .int x :: st) := R_ite (fun h => fun out ho ls H locs hl hP hS => lv_icmp_le C.1 C.2.1 hd ht (fun _ => k1 out ho ls H locs hl hP hS) (fun h2 => absurd h h2)) (fun h => fun out ho ls H locs hl hP hS => lv_icmp_le C.1 C.2.1 hd ht (fun h2 => absurd h2 h) (fun _ => k2 out ho ls H locs hl hP hS))
theorem R_icmp_ne (C : Ctx sd q z cc own nL rk ret) {x y : Int32} {off : Int} {tgt : Nat} {f1 f2 : Option β} (hd : decode cc pc = .ok (.if_icmp .ne off, 3)) (ht : (pc : Int) + off = (tgt : Int)) (k1 : R sd q z nL φ f1 μ ν tgt lv st) (k2 : R sd q z nL φ f2 μ ν (pc + 3) lv st) : R sd q z nL φ (if x = y then f2 else f1) μ ν pc lv (.int y :: .int x :: st) := R_ite (fun h => fun out ho ls H locs hl hP hS => lv_icmp_ne C.1 C.2.1 hd ht (fun h2 => absurd h h2) (fun _ => k2 out ho ls H locs hl hP hS)) (fun h => fun out ho ls H locs hl hP hS => lv_icmp_ne C.1 C.2.1 hd ht (fun _ => k1 out ho ls H locs hl hP hS) (fun h2 => absurd h2 h))
theorem R_tsw (C : Ctx sd q z cc own nL rk ret) {dflt lo hi : Int} {offs : Array Int} {len : Nat} {x c : Int32} {off : Int} {tgt : Nat} (hx : x = c) (hd : decode cc pc = .ok (.tableswitch dflt lo hi offs, len)) (h1 : ¬ c.toInt < lo) (h2 : ¬ hi < c.toInt) (ho' : offs[(c.toInt - lo).toNat]? = some off) (ht : (pc : Int) + off = (tgt : Int)) (k : R sd q z nL φ f μ ν tgt lv st) : R sd q z nL φ f μ ν pc lv (.int x :: st) := by
  subst hx
  exact fun out ho ls H locs hl hP hS => lv_tableIn C.1 C.2.1 hd h1 h2 ho' ht (k out ho ls H locs hl hP hS)
theorem sw_out {L : List Int32} {lo hi : Int} {n : Nat} (hn : hi - lo < (n : Int)) (hL : (List.range n).map (fun (i : Nat) => lo + (i : Int)) = L.map Int32.toInt) {x : Int32} (h : ∀ c ∈ L, ¬ x = c) : x.toInt < lo ∨ hi < x.toInt := by
  by_cases h1 : x.toInt < lo
  · exact Or.inl h1
  · by_cases h2 : hi < x.toInt
    · exact Or.inr h2
    · exfalso
      have hm : x.toInt ∈ (List.range n).map (fun (i : Nat) => lo + (i : Int)) := List.mem_map.mpr ⟨(x.toInt - lo).toNat, List.mem_range.mpr (by omega), by omega⟩
      rw [hL] at hm
      obtain ⟨c, hc, he⟩ := List.mem_map.mp hm
      exact h c hc (Int32.toInt_inj.mp he).symm
theorem R_tswd (C : Ctx sd q z cc own nL rk ret) {dflt lo hi : Int} {offs : Array Int} {len : Nat} {x : Int32} {tgt : Nat} (hd : decode cc pc = .ok (.tableswitch dflt lo hi offs, len)) (h : x.toInt < lo ∨ hi < x.toInt) (ht : (pc : Int) + dflt = (tgt : Int)) (k : R sd q z nL φ f μ ν tgt lv st) : R sd q z nL φ f μ ν pc lv (.int x :: st) := fun out ho ls H locs hl hP hS => lv_tableOut C.1 C.2.1 hd h ht (k out ho ls H locs hl hP hS)
theorem R_lsw (C : Ctx sd q z cc own nL rk ret) {dflt : Int} {ps : Array (Int × Int)} {len : Nat} {x : Int32} {off : Int} {tgt : Nat} (hd : decode cc pc = .ok (.lookupswitch dflt ps, len)) (hp : (ps.toList.zip (ps.toList.drop 1)).all (fun (a, next) => a.1 < next.1) = true) (ho' : Op.lookupswitch.offset ps.toList dflt x.toInt = off) (ht : (pc : Int) + off = (tgt : Int)) (k : R sd q z nL φ f μ ν tgt lv st) : R sd q z nL φ f μ ν pc lv (.int x :: st) := fun out ho ls H locs hl hP hS => lv_lookup C.1 C.2.1 hd hp ho' ht (k out ho ls H locs hl hP hS)
theorem R_getf (C : Ctx sd q z cc own nL rk ret) {b ci index : Nat} {fs : List Value} {Cn ref n d : String} {T : u_T} {N : Nat} (hb : b ∈ sd.1) (hc : sd.2.1 q.2.2.1 q.2.2.2 b (μ b) (ν b) = .inr (ci, fs)) (hcl : vwCl[ci]? = some (Cn, T, N)) (hin : ∀ w ∈ u_ws Cn T N, w ∈ gW) (k' : Nat) (hk : k' < N) (hT : T k' = (ref, n, d, (T k').2.2.2)) (hlink : Cond.fieldLink own index ref n d ∈ gW) {v : Value} (hv : fs[k']? = some v) (hd : decode cc pc = .ok (.getfield index, 3)) (k : R sd q z nL φ f μ ν (pc + 3) lv (v :: st)) : R sd q z nL φ f μ ν pc lv (.ref (q.2.2.1 b) :: st) := by
  intro out ho ls H locs hl hP hS
  obtain ⟨i, hi, he⟩ := wd_get (q := q) (μ := μ) (ν := ν) hb
  rw [hc] at he
  have e1 : (T k').1 = ref := by rw [hT]
  have e2 : (T k').2.1 = n := by rw [hT]
  have e3 : (T k').2.2.1 = d := by rw [hT]
  refine va_get C.1 C.2.1 (C := Cn) (T := T) (N := N) (Ts := gW) (ref := ref) C.2.2.2.2.1 hin C.2.2.2.1 C.2.2.2.2.2.2.1 hP i he hcl k' hk (by rw [e2, e3]; exact C.2.2.2.2.1 _ hlink) (by rw [e1]; exact fun _ h => h) hv hd (k out ho ls H locs hl hP hS)
theorem R_putf (C : Ctx sd q z cc own nL rk ret) {b ci index : Nat} {fs : List Value} {Cn ref n d : String} {T : u_T} {N : Nat} {ty : Nat → FieldType} (hb : b ∈ sd.1) (hc : sd.2.1 q.2.2.1 q.2.2.2 b (μ b) (ν b) = .inr (ci, fs)) (hcl : vwCl[ci]? = some (Cn, T, N)) (hin : ∀ w ∈ u_ws Cn T N, w ∈ gW) (hty : ∀ k, k < N → parseFieldDescriptor (T k).2.2.1 = some (ty k)) (hnm : ∀ a, a < N → ∀ b, b < N → a ≠ b → (T a).2.1 ≠ (T b).2.1) (k' : Nat) (hk : k' < N) (hT : T k' = (ref, n, d, false)) (hlink : Cond.fieldLink own index ref n d ∈ gW) {x : Int32} (hn : narrow (ty k') (.int x) = .int x) (hft : fits (ty k') (.int x) = true) (hc' : sd.2.1 q.2.2.1 q.2.2.2 b (upd (μ b) k' x) (ν b) = .inr (ci, fs.set k' (.int x))) (hl' : k' < fs.length) (hd : decode cc pc = .ok (.putfield index, 3)) (k : R sd q z nL φ f (up2 μ b k' x) ν (pc + 3) lv st) : R sd q z nL φ f μ ν pc lv (.int x :: .ref (q.2.2.1 b) :: st) := by
  intro out ho ls H locs hl hP hS
  obtain ⟨i, hi, he⟩ := wd_get (q := q) (μ := μ) (ν := ν) hb
  rw [hc] at he
  have e1 : (T k').1 = ref := by rw [hT]
  have e2 : (T k').2.1 = n := by rw [hT]
  have e3 : (T k').2.2.1 = d := by rw [hT]
  have e4 : (T k').2.2.2 = false := by rw [hT]
  have hg := C.2.2.2.2.2.2.2.2.2.2
  refine va_put C.1 C.2.1 (C := Cn) (T := T) (N := N) (Ts := gW) (ref := ref) C.2.2.2.2.1 hin ty hty hnm C.2.2.2.1 C.2.2.2.2.2.2.1 hP (wd_D hg μ ν _) hS i he hcl k' hk (by rw [e2, e3]; exact C.2.2.2.2.1 _ hlink) (by rw [e1]; exact fun _ h => h) e4 (hty k' hk) hn hft hl' hd (fun H1 locs1 hP1 hD1 hS1 => ?_)
  rw [wd_put (μ' := up2 μ b k' x) (ν' := ν) hg.1 hi up2_ne (fun _ _ => rfl) (by rw [up2_eq]; exact hc')] at hP1
  exact k out ho ls H1 locs1 hl hP1 hS1
def rdI (g : Nat → Int32) (n : Nat) (j : Int32) : Option Int32 := if j < 0 ∨ n ≤ j.toNatClampNeg then none else some (g j.toNatClampNeg)
def rdL (g : Nat → Int64) (n : Nat) (j : Int32) : Option Int64 := if j < 0 ∨ n ≤ j.toNatClampNeg then none else some (g j.toNatClampNeg)
/-- a row of cells: the j-th is b + j -/
def rdR (b n : Nat) (j : Int32) : Option Nat := if j < 0 ∨ n ≤ j.toNatClampNeg then none else some (b + j.toNatClampNeg)
def wrI (μ : Mm) (b n : Nat) (j x : Int32) : Option Mm := if j < 0 ∨ n ≤ j.toNatClampNeg then none else some (up2 μ b j.toNatClampNeg x)
def wrL (ν : Ml) (b n : Nat) (j : Int32) (x : Int64) : Option Ml := if j < 0 ∨ n ≤ j.toNatClampNeg then none else some (upL ν b j.toNatClampNeg x)
def cpI (μ : Mm) (b0 n0 : Nat) (sp : Int32) (b1 n1 : Nat) (dp n : Int32) : Option Mm := if sp < 0 ∨ dp < 0 ∨ n < 0 ∨ n0 < sp.toNatClampNeg + n.toNatClampNeg ∨ n1 < dp.toNatClampNeg + n.toNatClampNeg then none else some (fun c => if c = b1 then va_cpy (μ b0) (μ b1) sp.toNatClampNeg dp.toNatClampNeg n.toNatClampNeg else μ c)
def cpL (ν : Ml) (b0 n0 : Nat) (sp : Int32) (b1 n1 : Nat) (dp n : Int32) : Option Ml := if sp < 0 ∨ dp < 0 ∨ n < 0 ∨ n0 < sp.toNatClampNeg + n.toNatClampNeg ∨ n1 < dp.toNatClampNeg + n.toNatClampNeg then none else some (fun c => if c = b1 then va_cpy (ν b0) (ν b1) sp.toNatClampNeg dp.toNatClampNeg n.toNatClampNeg else ν c)
theorem R_bind {α : Type} {o : Option α} {g : α → Option β} (k : ∀ a, o = some a → R sd q z nL φ (g a) μ ν pc lv st) : R sd q z nL φ (o.bind g) μ ν pc lv st := by
  cases h : o with
  | none => exact R_none
  | some a => exact k a h
theorem gd_some {α : Type} {c : Prop} [Decidable c] {x a : α} (h : (if c then none else some x) = some a) : ¬ c ∧ a = x := by
  by_cases hc : c
  · rw [if_pos hc] at h
    cases h
  · rw [if_neg hc] at h
    exact ⟨hc, (Option.some.inj h).symm⟩
theorem R_iald (C : Ctx sd q z cc own nL rk ret) {b n : Nat} {i : Int32} {g : Int32 → Option β} (hb : b ∈ sd.1) (hc : sd.2.1 q.2.2.1 q.2.2.2 b (μ b) (ν b) = .inl (q.2.2.2 0, n, .inl (μ b))) (hd : decode cc pc = .ok (.iaload, 1)) (k : ∀ v, R sd q z nL φ (g v) μ ν (pc + 1) lv (.int v :: st)) : R sd q z nL φ ((rdI (μ b) n i).bind g) μ ν pc lv (.int i :: .ref (q.2.2.1 b) :: st) := by
  refine R_bind (fun a ha => ?_)
  obtain ⟨h1, rfl⟩ := gd_some ha
  intro out ho ls H locs hl hP hS
  obtain ⟨j, hj, he⟩ := wd_get (q := q) (μ := μ) (ν := ν) hb
  rw [hc] at he
  exact va_iald C.1 C.2.1 C.2.2.2.2.2.2.1 hP j 0 he rfl h1 hd (k _ out ho ls H locs hl hP hS)
theorem R_bald (C : Ctx sd q z cc own nL rk ret) {b n : Nat} {i : Int32} {g : Int32 → Option β} (hb : b ∈ sd.1) (hc : sd.2.1 q.2.2.1 q.2.2.2 b (μ b) (ν b) = .inl (q.2.2.2 1, n, .inl (μ b))) (hd : decode cc pc = .ok (.baload, 1)) (k : ∀ v, R sd q z nL φ (g v) μ ν (pc + 1) lv (.int v :: st)) : R sd q z nL φ ((rdI (μ b) n i).bind g) μ ν pc lv (.int i :: .ref (q.2.2.1 b) :: st) := by
  refine R_bind (fun a ha => ?_)
  obtain ⟨h1, rfl⟩ := gd_some ha
  intro out ho ls H locs hl hP hS
  obtain ⟨j, hj, he⟩ := wd_get (q := q) (μ := μ) (ν := ν) hb
  rw [hc] at he
  exact va_bald C.1 C.2.1 C.2.2.2.2.2.2.1 hP j 1 he rfl h1 hd (k _ out ho ls H locs hl hP hS)
theorem R_zald (C : Ctx sd q z cc own nL rk ret) {b n : Nat} {i : Int32} {g : Int32 → Option β} (hb : b ∈ sd.1) (hc : sd.2.1 q.2.2.1 q.2.2.2 b (μ b) (ν b) = .inl (q.2.2.2 3, n, .inl (μ b))) (hd : decode cc pc = .ok (.baload, 1)) (k : ∀ v, R sd q z nL φ (g v) μ ν (pc + 1) lv (.int v :: st)) : R sd q z nL φ ((rdI (μ b) n i).bind g) μ ν pc lv (.int i :: .ref (q.2.2.1 b) :: st) := by
  refine R_bind (fun a ha => ?_)
  obtain ⟨h1, rfl⟩ := gd_some ha
  intro out ho ls H locs hl hP hS
  obtain ⟨j, hj, he⟩ := wd_get (q := q) (μ := μ) (ν := ν) hb
  rw [hc] at he
  exact va_zald C.1 C.2.1 C.2.2.2.2.2.2.1 hP j 3 he rfl h1 hd (k _ out ho ls H locs hl hP hS)
theorem R_lald (C : Ctx sd q z cc own nL rk ret) {b n : Nat} {i : Int32} {g : Int64 → Option β} (hb : b ∈ sd.1) (hc : sd.2.1 q.2.2.1 q.2.2.2 b (μ b) (ν b) = .inl (q.2.2.2 2, n, .inr (.inl (ν b)))) (hd : decode cc pc = .ok (.laload, 1)) (k : ∀ v, R sd q z nL φ (g v) μ ν (pc + 1) lv (.long v :: st)) : R sd q z nL φ ((rdL (ν b) n i).bind g) μ ν pc lv (.int i :: .ref (q.2.2.1 b) :: st) := by
  refine R_bind (fun a ha => ?_)
  obtain ⟨h1, rfl⟩ := gd_some ha
  intro out ho ls H locs hl hP hS
  obtain ⟨j, hj, he⟩ := wd_get (q := q) (μ := μ) (ν := ν) hb
  rw [hc] at he
  exact va_lald C.1 C.2.1 C.2.2.2.2.2.2.1 hP j 2 he rfl h1 hd (k _ out ho ls H locs hl hP hS)
theorem rdR_in {b n : Nat} {j : Int32} {a : Nat} (h : rdR b n j = some a) : ∃ i, i < n ∧ a = b + i ∧ j.toNatClampNeg = i := by
  obtain ⟨h1, rfl⟩ := gd_some h
  exact ⟨_, by omega, rfl, rfl⟩
theorem R_aald (C : Ctx sd q z cc own nL rk ret) {b n r ti : Nat} {ty : FieldType} {i : Int32} {g : Nat → Option β} (hb : b ∈ sd.1) (hc : sd.2.1 q.2.2.1 q.2.2.2 b (μ b) (ν b) = .inl (q.2.2.2 ti, n, .inr (.inr (.inr (.inr (fun j => some (q.2.2.1 (r + j)))))))) (hty : (tyl q)[ti]? = some (q.2.2.2 ti, ty)) (href : ty.isReference = true) (hd : decode cc pc = .ok (.aaload, 1)) (k : ∀ v, rdR r n i = some v → R sd q z nL φ (g v) μ ν (pc + 1) lv (.ref (q.2.2.1 v) :: st)) : R sd q z nL φ ((rdR r n i).bind g) μ ν pc lv (.int i :: .ref (q.2.2.1 b) :: st) := by
  refine R_bind (fun a ha => ?_)
  have kk := k a ha
  obtain ⟨h1, rfl⟩ := gd_some ha
  intro out ho ls H locs hl hP hS
  obtain ⟨j, hj, he⟩ := wd_get (q := q) (μ := μ) (ν := ν) hb
  rw [hc] at he
  have hlt : i.toNatClampNeg < n := Nat.not_le.mp fun q => h1 (Or.inr q)
  refine W.aald (v := .ref (q.2.2.1 (r + i.toNatClampNeg))) (ty := ty) C.1 C.2.1 (hP j _ he) ((C.2.2.2.2.2.2.1.2 ti _ hty).1 n (fun j => va_rf (some (q.2.2.1 (r + j))))) href (fun q => by cases q) (by show ¬ (i < 0 ∨ (arrV _ _ _).slots.size ≤ _); rw [arrV_size]; exact h1) (by show (arrV _ _ _).slots[_]? = _; rw [arrV_read _ _ hlt]; rfl) rfl rfl hd (kk out ho ls H locs hl hP hS)
theorem R_alen (C : Ctx sd q z cc own nL rk ret) {b ti : Nat} {ty : FieldType} {x : vp_A} {v : Int32} (hb : b ∈ sd.1) (hc : sd.2.1 q.2.2.1 q.2.2.2 b (μ b) (ν b) = .inl (q.2.2.2 ti, x)) (hty : (tyl q)[ti]? = some (q.2.2.2 ti, ty)) (hv : Int32.ofNat x.1 = v) (hd : decode cc pc = .ok (.arraylength, 1)) (k : R sd q z nL φ f μ ν (pc + 1) lv (.int v :: st)) : R sd q z nL φ f μ ν pc lv (.ref (q.2.2.1 b) :: st) := by
  intro out ho ls H locs hl hP hS
  obtain ⟨j, hj, he⟩ := wd_get (q := q) (μ := μ) (ν := ν) hb
  rw [hc] at he
  exact va_alen C.1 C.2.1 C.2.2.2.2.2.2.1 hP j ti he hty hv hd (k out ho ls H locs hl hP hS)
theorem R_iast (C : Ctx sd q z cc own nL rk ret) {b n : Nat} {i x : Int32} {g : Mm → Option β} (hb : b ∈ sd.1) (hc : ∀ h : Nat → Int32, sd.2.1 q.2.2.1 q.2.2.2 b h (ν b) = .inl (q.2.2.2 0, n, .inl h)) (hd : decode cc pc = .ok (.iastore, 1)) (k : ∀ μ', R sd q z nL φ (g μ') μ' ν (pc + 1) lv st) : R sd q z nL φ ((wrI μ b n i x).bind g) μ ν pc lv (.int x :: .int i :: .ref (q.2.2.1 b) :: st) := by
  refine R_bind (fun a ha => ?_)
  obtain ⟨h1, rfl⟩ := gd_some ha
  intro out ho ls H locs hl hP hS
  obtain ⟨j, hj, he⟩ := wd_get (q := q) (μ := μ) (ν := ν) hb
  have hg := C.2.2.2.2.2.2.2.2.2.2
  rw [hc] at he
  refine va_iast C.1 C.2.1 C.2.2.2.2.2.2.1 hP (wd_D hg μ ν _) hS j 0 he rfl h1 hd (fun H1 locs1 hP1 hD1 hS1 => ?_)
  rw [wd_put (μ' := up2 μ b i.toNatClampNeg x) (ν' := ν) hg.1 hj up2_ne (fun _ _ => rfl) (by rw [up2_eq]; exact hc _)] at hP1
  exact k _ out ho ls H1 locs1 hl hP1 hS1
theorem R_bast (C : Ctx sd q z cc own nL rk ret) {b n : Nat} {i x : Int32} {g : Mm → Option β} (hb : b ∈ sd.1) (hc : ∀ h : Nat → Int32, sd.2.1 q.2.2.1 q.2.2.2 b h (ν b) = .inl (q.2.2.2 1, n, .inl h)) (hd : decode cc pc = .ok (.bastore, 1)) (k : ∀ μ', R sd q z nL φ (g μ') μ' ν (pc + 1) lv st) : R sd q z nL φ ((wrI μ b n i (vp_nar .byte x)).bind g) μ ν pc lv (.int x :: .int i :: .ref (q.2.2.1 b) :: st) := by
  refine R_bind (fun a ha => ?_)
  obtain ⟨h1, rfl⟩ := gd_some ha
  intro out ho ls H locs hl hP hS
  obtain ⟨j, hj, he⟩ := wd_get (q := q) (μ := μ) (ν := ν) hb
  have hg := C.2.2.2.2.2.2.2.2.2.2
  rw [hc] at he
  refine va_bast C.1 C.2.1 C.2.2.2.2.2.2.1 hP (wd_D hg μ ν _) hS j 1 he rfl h1 hd (fun H1 locs1 hP1 hD1 hS1 => ?_)
  rw [wd_put (μ' := up2 μ b i.toNatClampNeg (vp_nar .byte x)) (ν' := ν) hg.1 hj up2_ne (fun _ _ => rfl) (by rw [up2_eq]; exact hc _)] at hP1
  exact k _ out ho ls H1 locs1 hl hP1 hS1
theorem R_zast (C : Ctx sd q z cc own nL rk ret) {b n : Nat} {i x : Int32} {g : Mm → Option β} (hb : b ∈ sd.1) (hc : ∀ h : Nat → Int32, sd.2.1 q.2.2.1 q.2.2.2 b h (ν b) = .inl (q.2.2.2 3, n, .inl h)) (hd : decode cc pc = .ok (.bastore, 1)) (k : ∀ μ', R sd q z nL φ (g μ') μ' ν (pc + 1) lv st) : R sd q z nL φ ((wrI μ b n i (vp_nar .boolean x)).bind g) μ ν pc lv (.int x :: .int i :: .ref (q.2.2.1 b) :: st) := by
  refine R_bind (fun a ha => ?_)
  obtain ⟨h1, rfl⟩ := gd_some ha
  intro out ho ls H locs hl hP hS
  obtain ⟨j, hj, he⟩ := wd_get (q := q) (μ := μ) (ν := ν) hb
  have hg := C.2.2.2.2.2.2.2.2.2.2
  rw [hc] at he
  refine va_zast C.1 C.2.1 C.2.2.2.2.2.2.1 hP (wd_D hg μ ν _) hS j 3 he rfl h1 hd (fun H1 locs1 hP1 hD1 hS1 => ?_)
  rw [wd_put (μ' := up2 μ b i.toNatClampNeg (vp_nar .boolean x)) (ν' := ν) hg.1 hj up2_ne (fun _ _ => rfl) (by rw [up2_eq]; exact hc _)] at hP1
  exact k _ out ho ls H1 locs1 hl hP1 hS1
theorem R_last (C : Ctx sd q z cc own nL rk ret) {b n : Nat} {i : Int32} {x : Int64} {g : Ml → Option β} (hb : b ∈ sd.1) (hc : ∀ h : Nat → Int64, sd.2.1 q.2.2.1 q.2.2.2 b (μ b) h = .inl (q.2.2.2 2, n, .inr (.inl h))) (hd : decode cc pc = .ok (.lastore, 1)) (k : ∀ ν', R sd q z nL φ (g ν') μ ν' (pc + 1) lv st) : R sd q z nL φ ((wrL ν b n i x).bind g) μ ν pc lv (.long x :: .int i :: .ref (q.2.2.1 b) :: st) := by
  refine R_bind (fun a ha => ?_)
  obtain ⟨h1, rfl⟩ := gd_some ha
  intro out ho ls H locs hl hP hS
  obtain ⟨j, hj, he⟩ := wd_get (q := q) (μ := μ) (ν := ν) hb
  have hg := C.2.2.2.2.2.2.2.2.2.2
  rw [hc] at he
  refine va_last C.1 C.2.1 C.2.2.2.2.2.2.1 hP (wd_D hg μ ν _) hS j 2 he rfl h1 hd (fun H1 locs1 hP1 hD1 hS1 => ?_)
  rw [wd_put (μ' := μ) (ν' := upL ν b i.toNatClampNeg x) hg.1 hj (fun _ _ => rfl) upL_ne (by rw [upL_eq]; exact hc _)] at hP1
  exact k _ out ho ls H1 locs1 hl hP1 hS1
end RL
end
section
/-! ends, calls -/
section RE
variable {β : Type} {sd : SD} {q : QT} {z : ZT} {cc : ByteArray} {own : String} {nL rk : Nat} {ret : Option FieldType} {φ : β → Option Value × Mm × Ml} {f : Option β} {μ : Mm} {ν : Ml} {pc : Nat} {lv : List (Nat × Value)} {st : List Value}
theorem R_iret (C : Ctx sd q z cc own nL rk (some .int)) {b : β} {v : Int32} (hφ : φ b = (some (.int v), μ, ν)) (hd : decode cc pc = .ok (.ireturn, 1)) : R sd q z nL φ (some b) μ ν pc lv [.int v] := by
  intro out ho ls H locs hl hP hS
  cases ho
  unfold Qz
  rw [hφ]
  exact W.iret C.1 C.2.1 C.2.2.2.2.2.2.2.2.2.1 (fun t ht _ => ⟨rfl, by rw [ht]; exact hP, hS.F ht⟩) hS.2.2 hd C.2.2.2.2.2.2.2.2.1
/-- a boolean's end: what is returned is 0 or 1, else nothing is told -/
def rZ (v : Int32) : Option Int32 := if v = 0 ∨ v = 1 then some v else none
theorem rZ_some {v a : Int32} (h : rZ v = some a) : (v = 0 ∨ v = 1) ∧ a = v := by
  unfold rZ at h
  by_cases hc : v = 0 ∨ v = 1
  · rw [if_pos hc] at h
    exact ⟨hc, (Option.some.inj h).symm⟩
  · rw [if_neg hc] at h
    cases h
theorem R_zret (C : Ctx sd q z cc own nL rk (some .boolean)) {b : β} {v : Int32} (hv : v = 0 ∨ v = 1) (hφ : φ b = (some (.int v), μ, ν)) (hd : decode cc pc = .ok (.ireturn, 1)) : R sd q z nL φ (some b) μ ν pc lv [.int v] := by
  intro out ho ls H locs hl hP hS
  cases ho
  unfold Qz
  rw [hφ]
  exact W.zret C.1 C.2.1 C.2.2.2.2.2.2.2.2.2.1 (by rcases hv with rfl | rfl <;> rfl) (fun t ht _ => ⟨rfl, by rw [ht]; exact hP, hS.F ht⟩) hS.2.2 hd C.2.2.2.2.2.2.2.2.1
theorem R_zretG (C : Ctx sd q z cc own nL rk (some .boolean)) {g : Int32 → Option β} {v : Int32} (hg : ∀ a, ∃ b, g a = some b ∧ φ b = (some (.int a), μ, ν)) (hd : decode cc pc = .ok (.ireturn, 1)) : R sd q z nL φ ((rZ v).bind g) μ ν pc lv [.int v] := by
  refine R_bind (fun a ha => ?_)
  obtain ⟨h1, rfl⟩ := rZ_some ha
  obtain ⟨b, h2, h3⟩ := hg a
  rw [h2]
  exact R_zret C h1 h3 hd
theorem R_vret (C : Ctx sd q z cc own nL rk none) {b : β} (hφ : φ b = (none, μ, ν)) (hd : decode cc pc = .ok (.return_, 1)) : R sd q z nL φ (some b) μ ν pc lv [] := by
  intro out ho ls H locs hl hP hS
  cases ho
  unfold Qz
  rw [hφ]
  exact W.vret C.1 C.2.1 C.2.2.2.2.2.2.2.2.2.1 (fun t ht _ => ⟨rfl, by rw [ht]; exact hP, hS.F ht⟩) hS.2.2 hd C.2.2.2.2.2.2.2.2.1
theorem R_lret (C : Ctx sd q z cc own nL rk (some .long)) {b : β} {v : Int64} (hφ : φ b = (some (.long v), μ, ν)) (hd : decode cc pc = .ok (.lreturn, 1)) : R sd q z nL φ (some b) μ ν pc lv [.long v] := by
  intro out ho ls H locs hl hP hS
  cases ho
  unfold Qz
  rw [hφ]
  exact W.lret C.1 C.2.1 C.2.2.2.2.2.2.2.2.2.1 (fun t ht _ => ⟨rfl, by rw [ht]; exact hP, hS.F ht⟩) hS.2.2 hd C.2.2.2.2.2.2.2.2.1
theorem R_aret (C : Ctx sd q z cc own nL rk ret) {n : String} (hr : ret = some (.object n)) {b : β} {v : Nat} (hφ : φ b = (some (.ref v), μ, ν)) (hd : decode cc pc = .ok (.areturn, 1)) : R sd q z nL φ (some b) μ ν pc lv [.ref v] := by
  intro out ho ls H locs hl hP hS
  cases ho
  subst hr
  unfold Qz
  rw [hφ]
  exact W.aret C.1 C.2.1 C.2.2.2.2.2.2.2.2.2.1 (Or.inl ⟨_, rfl⟩) (Or.inr ⟨_, rfl⟩) (fun t ht _ => ⟨rfl, by rw [ht]; exact hP, hS.F ht⟩) hS.2.2 hd C.2.2.2.2.2.2.2.2.1
/-- what a callee's name says -/
def CF (y : MethodName) (cc : ByteArray) (maxL : Nat) (ret : Option FieldType) (n : Nat) : Prop := Cond.code y cc maxL ret ∈ gW ∧ Cond.initialized y.cls ∈ gW ∧ (y.cls ≠ "java/lang/invoke/MethodHandle" ∧ y.cls ≠ "java/lang/invoke/VarHandle") ∧ (parseMethodDescriptor y.desc).map (fun d => d.parameters.length) = some n
theorem gG {Ts : List Cond} (hT : ∀ w ∈ gW, w ∈ Ts) {y : MethodName} {cc : ByteArray} {maxL : Nat} {ret : Option FieldType} (hc : Cond.code y cc maxL ret ∈ gW) (ws : List Cond) (hws : ∀ w ∈ ws, w ∈ gW) : GoodIn Ts (ws ++ wsG y cc maxL ret) := by
  intro w hw
  have h : w ∈ gW := by
    rcases List.mem_append.mp hw with h | h
    · exact hws w h
    · rcases List.mem_cons.mp h with h | h
      · rw [h]; exact hc
      · exact h
  exact ⟨hT w h, good_of_word (gW_good h)⟩
theorem PG_blind {sd : SD} {q : QT} {sz : Nat} {av : List Value} {μ : Mm} {ν : Ml} (hE : ExtOk sd.2.2) : FrameBlind (va_Pc av (PG sd q sz μ ν)) := fun a U g mk h => by
  obtain ⟨h1, h2, h3, h4, h5⟩ := h
  exact ⟨h1, h2, h3, va_K.moved (u := U) (U := U.calling g mk a) (Vm.Alike.refl U.vm) h4, hE _ _ _ U (U.calling g mk a) U.heap U.heap h5 (fun _ h => h) (State.WarmedH.refl U) (fun _ _ _ => rfl)⟩
theorem AA_in {sd : SD} {q : QT} {a b : Nat} (h : a ≤ b) : ∀ x, AA sd q b x → AA sd q a x := fun x hx => hx.elim Or.inl (fun k => Or.inr (Nat.le_trans h k))
theorem PG_of (C : Ctx sd q z cc own nL rk ret) {av : List Value} {H : Heap} {locs : List Loc} (hP : va_P q.2.1 vwCl (wd sd q μ ν) H) (hS : va_S (AA sd q z.1.2.2.2.heap.size) z.1.2.2.2.heap H locs) : ∀ U : State, U.heap = H → z.1.2.2.2.WarmedH U.vm → va_Pc av (PG sd q H.size μ ν) av.toArray U := by
  intro U hU hW
  refine ⟨rfl, by rw [hU], by rw [hU]; exact hP, va_K.moved hW.alike C.2.2.2.2.2.2.1, ?_⟩
  rw [hU]
  exact C.2.2.2.2.2.2.2.2.2.2.2.2 _ _ _ _ U _ H C.2.2.2.2.2.2.2.1 (AA_in hS.1) hW (fun a h1 h2 => hS.2.1 a h1 h2)
/-- any call, out of its run -/
theorem R_run (C : Ctx sd q z cc own nL rk ret) {v : Option Value} {μ' : Mm} {ν' : Ml} {ls : Array Slot} {H : Heap} {locs : List Loc} {st0 : List Value} {a : Array Value} {Q : State → Prop}
    (hS : va_S (AA sd q z.1.2.2.2.heap.size) z.1.2.2.2.heap H locs)
    (hr : va_Run z.1.1 q.1 z.1.2.1 z.1.2.2.1 z.1.2.2.2 z.2.1 z.2.2.1 z.2.2.2.1 z.2.2.2.2.1 z.2.2.2.2.2 H locs 0 0 0 0 (F0 z.2.1 pc ls st0) st (QG sd q H.size v μ' ν' a) (AA sd q H.size))
    (k : ∀ (H1 : Heap) (locs1 : List Loc), va_P q.2.1 vwCl (wd sd q μ' ν') H1 → va_S (AA sd q z.1.2.2.2.heap.size) z.1.2.2.2.heap H1 locs1 → Wz q z H1 locs1 Q (F0 z.2.1 (pc + 3) ls (v.toList ++ st))) : Wz q z H locs Q (F0 z.2.1 pc ls st0) := by
  intro T hT X
  obtain ⟨w, st₀, t, T', L, h0, X', hL, e1, e2, ⟨hv, hp, hz, hk⟩, stp⟩ := hr T hT X
  cases hv
  rw [h0] at hz hk
  have hS1 : va_S (AA sd q z.1.2.2.2.heap.size) z.1.2.2.2.heap T'.heap (locs ++ L) := by
    refine ⟨Nat.le_trans hS.1 (by rw [e1]; exact hz), fun x h1 h2 => ?_, fun x hx => ?_⟩
    · rw [e1, hk x (Nat.lt_of_lt_of_le h1 hS.1) (fun h => h2 (AA_in hS.1 x h))]
      exact hS.2.1 x h1 h2
    · rcases List.mem_append.mp hx with h | h
      · exact hS.2.2 x h
      · exact AA_in hS.1 _ (hL x h)
  obtain ⟨t2, a1, b1⟩ := k T'.heap (locs ++ L) (by rw [e1]; exact hp) hS1 T' rfl X'
  exact ⟨t2, stp t2 a1, b1⟩
theorem room_ok {R : Room} {rk rk' maxL : Nat} (hR : R = rmG rk) (h : rk' + 1 ≤ rk) (hm : maxL ≤ 80) : (rmG rk').frames + 1 ≤ R.frames ∧ 8 + (maxL + 11) + (rmG rk').locals ≤ R.locals := by
  subst hR
  show rk' + 1 ≤ rk ∧ 8 + (maxL + 11) + 100 * rk' ≤ 100 * rk
  omega
theorem cells_ok {R : Room} {rk : Nat} (hR : R = rmG rk) : 0 + 0 ≤ R.cells ∧ 0 + 0 ≤ R.slots := by
  subst hR
  exact ⟨Nat.le_refl _, Nat.le_refl _⟩
variable {y : MethodName} {cy' : ByteArray} {maxL n rk' index : Nat} {rt : Option FieldType} {As av : List Value} {v : Option Value} {μ' : Mm} {ν' : Ml} {stk : List Value}
/-- a static method of the frame's own class -/
theorem R_callS (C : Ctx sd q z cc own nL rk ret) (F : CF y cy' maxL rt n) (hm : Cond.methodLink own index y ∈ gW) (hs : Cond.static y ∈ gW) (hc : Ct sd q y cy' maxL rt rk' As μ ν v μ' ν') (hrk : rk' + 1 ≤ rk) (hmx : maxL ≤ 80) (hst : stk = As.reverse ++ st) (hn : As.length = n) (hw : (st.map fun v => v.category).sum ≤ 8) (hd : decode cc pc = .ok (.invokestatic index, 3)) (k : R sd q z nL φ f μ' ν' (pc + 3) lv (v.toList ++ st)) : R sd q z nL φ f μ ν pc lv stk := by
  intro out ho ls H locs hl hP hS
  subst hst
  have hE := C.2.2.2.2.2.2.2.2.2.2.2.2
  have cw := va_cwS (R := z.1.2.2.1) (s := z.1.2.2.2) (args := z.2.2.1) (mc := 0) (ms := 0) (own := own) (index := index) n C.2.2.2.2.1 (gG (fun _ h => h) F.1 [.methodLink own index y, .static y, .initialized y.cls] (by
    intro w hw
    rcases List.mem_cons.mp hw with rfl | hw
    · exact hm
    · rcases List.mem_cons.mp hw with rfl | hw
      · exact hs
      · rw [List.mem_singleton.mp hw]; exact F.2.1)) rfl rfl rfl ⟨F.2.2.1.1, F.2.2.1.2, F.2.2.2⟩ (room_ok C.2.2.2.2.2.1 hrk hmx)
  exact R_run C hS (va_runS ⟨C.1, C.2.1, C.2.2.1, C.2.2.2.1, C.2.2.2.2.1⟩ (hc H.size) cw ⟨PG_blind hE, PG_of C hP hS⟩ rfl hn hl.1 rfl (by show 2 * 0 + _ ≤ 8; omega) hd (cells_ok C.2.2.2.2.2.1)) (fun H1 locs1 hP1 hS1 => k out ho ls H1 locs1 hl hP1 hS1)
/-- a static method of a nest mate -/
theorem R_callSN (C : Ctx sd q z cc own nL rk ret) {host : String} (F : CF y cy' maxL rt n) (hm : Cond.methodLinkNest own index y host ∈ gW) (hs : Cond.static y ∈ gW) (hc : Ct sd q y cy' maxL rt rk' As μ ν v μ' ν') (hrk : rk' + 1 ≤ rk) (hmx : maxL ≤ 80) (hst : stk = As.reverse ++ st) (hn : As.length = n) (hw : (st.map fun v => v.category).sum ≤ 8) (hd : decode cc pc = .ok (.invokestatic index, 3)) (k : R sd q z nL φ f μ' ν' (pc + 3) lv (v.toList ++ st)) : R sd q z nL φ f μ ν pc lv stk := by
  intro out ho ls H locs hl hP hS
  subst hst
  have hE := C.2.2.2.2.2.2.2.2.2.2.2.2
  have cw := va_cnB (R := z.1.2.2.1) (s := z.1.2.2.2) (args := z.2.2.1) (mc := 0) (ms := 0) (own := own) (index := index) n C.2.2.2.2.1 (gG (fun _ h => h) F.1 [] (fun w h => by cases h)) rfl rfl rfl (va_Nw.of rfl (C.2.2.2.2.1 _ hm)) (C.2.2.2.2.1 _ F.2.1) ⟨F.2.2.1.1, F.2.2.1.2, F.2.2.2⟩ (room_ok C.2.2.2.2.2.1 hrk hmx)
  exact R_run C hS (va_runSN ⟨C.1, C.2.1, C.2.2.1, C.2.2.2.1, C.2.2.2.2.1⟩ (hc H.size) ⟨cw, C.2.2.2.2.1 _ hs, trivial⟩ ⟨PG_blind hE, PG_of C hP hS⟩ rfl hn hl.1 rfl (by show 2 * 0 + _ ≤ 8; omega) hd (cells_ok C.2.2.2.2.2.1)) (fun H1 locs1 hP1 hS1 => k out ho ls H1 locs1 hl hP1 hS1)
theorem rcv_of (C : Ctx sd q z cc own nL rk ret) {b ci : Nat} {fs : List Value} {Cn : String} {T : u_T} {N : Nat} {H : Heap} (hP : va_P q.2.1 vwCl (wd sd q μ ν) H) (hb : b ∈ sd.1) (hcl : sd.2.1 q.2.2.1 q.2.2.2 b (μ b) (ν b) = .inr (ci, fs)) (hv : vwCl[ci]? = some (Cn, T, N)) : ∃ cell : Cell, H[q.2.2.1 b]? = some cell ∧ cell.vm.isStatics = false ∧ z.1.2.2.2.vm.findClass Cn = some cell.cls := by
  obtain ⟨i, hi, he⟩ := wd_get (q := q) (μ := μ) (ν := ν) hb
  rw [hcl] at he
  exact va_recv C.2.2.2.2.2.2.1 hP hv he
/-- a method of its own class, no other -/
theorem R_callV (C : Ctx sd q z cc own nL rk ret) {b ci : Nat} {fs : List Value} {Cn : String} {T : u_T} {N : Nat} (hb : b ∈ sd.1) (hcl : sd.2.1 q.2.2.1 q.2.2.2 b (μ b) (ν b) = .inr (ci, fs)) (hv : vwCl[ci]? = some (Cn, T, N)) (F : CF y cy' maxL rt n) (hcn : y.cls = Cn) (hm : Cond.methodLink own index y ∈ gW) (hi : Cond.instanceMethod y ∈ gW) (hse : Cond.selects Cn y y ∈ gW) (hc : Ct sd q y cy' maxL rt rk' (.ref (q.2.2.1 b) :: As) μ ν v μ' ν') (hrk : rk' + 1 ≤ rk) (hmx : maxL ≤ 80) (hst : stk = As.reverse ++ .ref (q.2.2.1 b) :: st) (hn : As.length = n) (hw : (st.map fun v => v.category).sum ≤ 8) (hd : decode cc pc = .ok (.invokevirtual index, 3)) (k : R sd q z nL φ f μ' ν' (pc + 3) lv (v.toList ++ st)) : R sd q z nL φ f μ ν pc lv stk := by
  intro out ho ls H locs hl hP hS
  subst hst
  subst hcn
  have hE := C.2.2.2.2.2.2.2.2.2.2.2.2
  have cw := cwV (R := z.1.2.2.1) (s := z.1.2.2.2) (args := z.2.2.1) (mc := 0) (ms := 0) (own := own) (index := index) (C := y.cls) n C.2.2.2.2.1 (gG (fun _ h => h) F.1 [.methodLink own index y, .instanceMethod y, .selects y.cls y y, .initialized y.cls] (by
    intro w hw
    rcases List.mem_cons.mp hw with rfl | hw
    · exact hm
    · rcases List.mem_cons.mp hw with rfl | hw
      · exact hi
      · rcases List.mem_cons.mp hw with rfl | hw
        · exact hse
        · rw [List.mem_singleton.mp hw]; exact F.2.1)) rfl rfl rfl ⟨rfl, F.2.2.1.1, F.2.2.1.2, F.2.2.2⟩ (room_ok C.2.2.2.2.2.1 hrk hmx)
  exact R_run C hS (va_runV ⟨C.1, C.2.1, C.2.2.1, C.2.2.2.1, C.2.2.2.2.1⟩ (hc H.size) cw ⟨PG_blind hE, rcv_of C hP hb hcl hv, PG_of C hP hS⟩ rfl hn hl.1 rfl (by show 2 * 0 + _ ≤ 8; omega) hd (cells_ok C.2.2.2.2.2.1)) (fun H1 locs1 hP1 hS1 => k out ho ls H1 locs1 hl hP1 hS1)
/-- a method that the class inherits or that overrides the one that is named -/
theorem R_callU (C : Ctx sd q z cc own nL rk ret) {b ci : Nat} {fs : List Value} {Cn owner : String} {T : u_T} {N : Nat} {x : MethodName} (hb : b ∈ sd.1) (hcl : sd.2.1 q.2.2.1 q.2.2.2 b (μ b) (ν b) = .inr (ci, fs)) (hv : vwCl[ci]? = some (Cn, T, N)) (F : CF y cy' maxL rt n) {b0 : ByteArray} {m0 : Nat} {r0 : Option FieldType} {n0 : Nat} (F0' : CF ⟨owner, x.name, x.desc⟩ b0 m0 r0 n0) (hx : (parseMethodDescriptor x.desc).map (fun d => d.parameters.length) = some n) (hm : Cond.methodLink own index x ∈ gW) (hsm : Cond.sameMethod x.cls owner x.name x.desc ∈ gW) (hi0 : Cond.instanceMethod ⟨owner, x.name, x.desc⟩ ∈ gW) (hse : Cond.selects Cn x y ∈ gW) (hi : Cond.instanceMethod y ∈ gW) (hc : Ct sd q y cy' maxL rt rk' (.ref (q.2.2.1 b) :: As) μ ν v μ' ν') (hrk : rk' + 1 ≤ rk) (hmx : maxL ≤ 80) (hst : stk = As.reverse ++ .ref (q.2.2.1 b) :: st) (hn : As.length = n) (hw : (st.map fun v => v.category).sum ≤ 8) (hd : decode cc pc = .ok (.invokevirtual index, 3)) (k : R sd q z nL φ f μ' ν' (pc + 3) lv (v.toList ++ st)) : R sd q z nL φ f μ ν pc lv stk := by
  intro out ho ls H locs hl hP hS
  subst hst
  have hE := C.2.2.2.2.2.2.2.2.2.2.2.2
  have cw := va_cwO (R := z.1.2.2.1) (s := z.1.2.2.2) (args := z.2.2.1) (mc := 0) (ms := 0) (own := own) (index := index) (C := Cn) (owner := owner) (x := x) (y := y) n C.2.2.2.2.1 (gG (fun _ h => h) F.1 [.methodLink own index x, .sameMethod x.cls owner x.name x.desc, .instanceMethod ⟨owner, x.name, x.desc⟩, .selects Cn x y, .instanceMethod y, .initialized y.cls] (by
    intro w hw
    rcases List.mem_cons.mp hw with rfl | hw
    · exact hm
    · rcases List.mem_cons.mp hw with rfl | hw
      · exact hsm
      · rcases List.mem_cons.mp hw with rfl | hw
        · exact hi0
        · rcases List.mem_cons.mp hw with rfl | hw
          · exact hse
          · rcases List.mem_cons.mp hw with rfl | hw
            · exact hi
            · rw [List.mem_singleton.mp hw]; exact F.2.1)) rfl rfl rfl F0'.1 ⟨F0'.2.2.1.1, F0'.2.2.1.2, hx⟩ (room_ok C.2.2.2.2.2.1 hrk hmx)
  exact R_run C hS (va_runU ⟨C.1, C.2.1, C.2.2.1, C.2.2.2.1, C.2.2.2.2.1⟩ (hc H.size) cw ⟨PG_blind hE, rcv_of C hP hb hcl hv, PG_of C hP hS⟩ rfl hn hl.1 rfl (by show 2 * 0 + _ ≤ 8; omega) hd (cells_ok C.2.2.2.2.2.1)) (fun H1 locs1 hP1 hS1 => k out ho ls H1 locs1 hl hP1 hS1)
/-- super.y(..) -/
theorem R_callSU (C : Ctx sd q z cc own nL rk ret) {b ci : Nat} {fs : List Value} {Cn : String} {T : u_T} {N : Nat} (hb : b ∈ sd.1) (hcl : sd.2.1 q.2.2.1 q.2.2.2 b (μ b) (ν b) = .inr (ci, fs)) (hv : vwCl[ci]? = some (Cn, T, N)) (F : CF y cy' maxL rt n) (hno : y.name ≠ "<init>") (hm : Cond.methodLink own index y ∈ gW) (hsm : Cond.sameMethod y.cls y.cls y.name y.desc ∈ gW) (hsup : Cond.superclass own y.cls ∈ gW) (hi : Cond.instanceMethod y ∈ gW) (hc : Ct sd q y cy' maxL rt rk' (.ref (q.2.2.1 b) :: As) μ ν v μ' ν') (hrk : rk' + 1 ≤ rk) (hmx : maxL ≤ 80) (hst : stk = As.reverse ++ .ref (q.2.2.1 b) :: st) (hn : As.length = n) (hw : (st.map fun v => v.category).sum ≤ 8) (hd : decode cc pc = .ok (.invokespecial index, 3)) (k : R sd q z nL φ f μ' ν' (pc + 3) lv (v.toList ++ st)) : R sd q z nL φ f μ ν pc lv stk := by
  intro out ho ls H locs hl hP hS
  subst hst
  have hE := C.2.2.2.2.2.2.2.2.2.2.2.2
  have cw := va_cwSU (R := z.1.2.2.1) (s := z.1.2.2.2) (args := z.2.2.1) (mc := 0) (ms := 0) (own := own) (index := index) (y := y) n C.2.2.2.2.1 (gG (fun _ h => h) F.1 [.methodLink own index y, .sameMethod y.cls y.cls y.name y.desc, .superclass own y.cls, .instanceMethod y, .initialized y.cls] (by
    intro w hw
    rcases List.mem_cons.mp hw with rfl | hw
    · exact hm
    · rcases List.mem_cons.mp hw with rfl | hw
      · exact hsm
      · rcases List.mem_cons.mp hw with rfl | hw
        · exact hsup
        · rcases List.mem_cons.mp hw with rfl | hw
          · exact hi
          · rw [List.mem_singleton.mp hw]; exact F.2.1)) rfl rfl rfl ⟨hno, F.2.2.2⟩ (room_ok C.2.2.2.2.2.1 hrk hmx)
  exact R_run C hS (va_runSU (C.2.2.2.2.2.2.1.1 ci _ hv).2 ⟨C.1, C.2.1, C.2.2.1, C.2.2.2.1, C.2.2.2.2.1⟩ (hc H.size) cw ⟨PG_blind hE, rcv_of C hP hb hcl hv, PG_of C hP hS⟩ rfl hn hl.1 rfl (by show 2 * 0 + _ ≤ 8; omega) hd (cells_ok C.2.2.2.2.2.1)) (fun H1 locs1 hP1 hS1 => k out ho ls H1 locs1 hl hP1 hS1)
theorem rm_fr {R : Room} {rk : Nat} (hR : R = rmG rk) (h : 1 ≤ rk) : 1 ≤ R.frames ∧ 8 + 40 ≤ R.locals ∧ 0 ≤ R.cells ∧ 0 ≤ R.slots := by
  subst hR
  refine ⟨h, ?_, Nat.zero_le _, Nat.zero_le _⟩
  show 48 ≤ 100 * rk
  omega
theorem R_max (C : Ctx sd q z cc own nL rk ret) (hm : Cond.methodLink own index Lib.Math.max.name ∈ gW) (hs : Cond.static Lib.Math.max.name ∈ gW) (hi : Cond.initialized "java/lang/Math" ∈ gW) (hco : Cond.code Lib.Math.max.name Lib.Math.max.code 2 (some .int) ∈ gW) (hrk : 1 ≤ rk) (hw : (st.map fun v => v.category).sum ≤ 8) {x y : Int32} (hd : decode cc pc = .ok (.invokestatic index, 3)) (k : R sd q z nL φ f μ ν (pc + 3) lv (.int (if x < y then y else x) :: st)) : R sd q z nL φ f μ ν pc lv (.int y :: .int x :: st) := by
  intro out ho ls H locs hl hP hS
  obtain ⟨r1, r2, r3, r4⟩ := rm_fr C.2.2.2.2.2.1 hrk
  exact va_mmax C.1 C.2.1 (C.2.2.1.trans hl.1.symm) C.2.2.2.1 (C.2.2.2.2.1 _ hm) (C.2.2.2.2.1 _ hs) (C.2.2.2.2.1 _ hi) (C.2.2.2.2.1 _ hco) r1 (by omega) r3 r4 hd (k out ho ls H locs hl hP hS)
theorem R_min (C : Ctx sd q z cc own nL rk ret) (hm : Cond.methodLink own index Lib.Math.min.name ∈ gW) (hs : Cond.static Lib.Math.min.name ∈ gW) (hi : Cond.initialized "java/lang/Math" ∈ gW) (hco : Cond.code Lib.Math.min.name Lib.Math.min.code 2 (some .int) ∈ gW) (hrk : 1 ≤ rk) (hw : (st.map fun v => v.category).sum ≤ 8) {x y : Int32} (hd : decode cc pc = .ok (.invokestatic index, 3)) (k : R sd q z nL φ f μ ν (pc + 3) lv (.int (if x > y then y else x) :: st)) : R sd q z nL φ f μ ν pc lv (.int y :: .int x :: st) := by
  intro out ho ls H locs hl hP hS
  obtain ⟨r1, r2, r3, r4⟩ := rm_fr C.2.2.2.2.2.1 hrk
  exact va_mmin C.1 C.2.1 (C.2.2.1.trans hl.1.symm) C.2.2.2.1 (C.2.2.2.2.1 _ hm) (C.2.2.2.2.1 _ hs) (C.2.2.2.2.1 _ hi) (C.2.2.2.2.1 _ hco) r1 (by omega) r3 r4 hd (k out ho ls H locs hl hP hS)
theorem nw_ok {a R : Nat} (h : a ≤ 8) (r : 8 + 40 ≤ R) : a + (nativeFrameWords "java/lang/System" "arraycopy" 5 + 11) ≤ R := by
  have h5 : nativeFrameWords "java/lang/System" "arraycopy" 5 ≤ 20 := by decide
  omega
theorem R_copyi (C : Ctx sd q z cc own nL rk ret) {a b n0 n1 : Nat} {sp dp n : Int32} {g : Mm → Option β} (hm : Cond.methodLink own index arraycopyName ∈ gW) (hna : Cond.native arraycopyName ∈ gW) (hs : Cond.static arraycopyName ∈ gW) (hi : Cond.initialized "java/lang/System" ∈ gW) (hrk : 1 ≤ rk) (hw : (st.map fun v => v.category).sum ≤ 8) (ha : a ∈ sd.1) (hb : b ∈ sd.1) (hca : ∀ h : Nat → Int32, sd.2.1 q.2.2.1 q.2.2.2 a h (ν a) = .inl (q.2.2.2 0, n0, .inl h)) (hcb : ∀ h : Nat → Int32, sd.2.1 q.2.2.1 q.2.2.2 b h (ν b) = .inl (q.2.2.2 0, n1, .inl h)) (hd : decode cc pc = .ok (.invokestatic index, 3)) (k : ∀ μ', R sd q z nL φ (g μ') μ' ν (pc + 3) lv st) : R sd q z nL φ ((cpI μ a n0 sp b n1 dp n).bind g) μ ν pc lv (.int n :: .int dp :: .ref (q.2.2.1 b) :: .int sp :: .ref (q.2.2.1 a) :: st) := by
  refine R_bind (fun m' hm' => ?_)
  obtain ⟨h1, rfl⟩ := gd_some hm'
  intro out ho ls H locs hl hP hS
  obtain ⟨i, hi', he⟩ := wd_get (q := q) (μ := μ) (ν := ν) ha
  obtain ⟨j, hj', he'⟩ := wd_get (q := q) (μ := μ) (ν := ν) hb
  have hg := C.2.2.2.2.2.2.2.2.2.2
  rw [hca] at he
  rw [hcb] at he'
  obtain ⟨r1, r2, r3, r4⟩ := rm_fr C.2.2.2.2.2.1 hrk
  simp only [not_or, Nat.not_lt] at h1
  refine va_copyi C.1 C.2.1 (C.2.2.1.trans hl.1.symm) C.2.2.2.1 (C.2.2.2.2.1 _ hm) (C.2.2.2.2.1 _ hna) (C.2.2.2.2.1 _ hs) (C.2.2.2.2.1 _ hi) C.2.2.2.2.2.2.1 hP (wd_D hg μ ν _) hS i j 0 0 he he' rfl rfl rfl h1.1 h1.2.1 h1.2.2.1 h1.2.2.2.1 h1.2.2.2.2 (fun _ _ => rfl) r1 (nw_ok hw r2) hd (fun H1 locs1 hP1 hD1 hS1 => ?_)
  rw [wd_put (μ' := fun c => if c = b then va_cpy (μ a) (μ b) sp.toNatClampNeg dp.toNatClampNeg n.toNatClampNeg else μ c) (ν' := ν) hg.1 hj' (fun c hc => if_neg hc) (fun _ _ => rfl) (by rw [if_pos rfl]; exact hcb _)] at hP1
  exact k _ out ho ls H1 locs1 hl hP1 hS1
theorem R_copyl (C : Ctx sd q z cc own nL rk ret) {a b n0 n1 : Nat} {sp dp n : Int32} {g : Ml → Option β} (hm : Cond.methodLink own index arraycopyName ∈ gW) (hna : Cond.native arraycopyName ∈ gW) (hs : Cond.static arraycopyName ∈ gW) (hi : Cond.initialized "java/lang/System" ∈ gW) (hrk : 1 ≤ rk) (hw : (st.map fun v => v.category).sum ≤ 8) (ha : a ∈ sd.1) (hb : b ∈ sd.1) (hca : ∀ h : Nat → Int64, sd.2.1 q.2.2.1 q.2.2.2 a (μ a) h = .inl (q.2.2.2 2, n0, .inr (.inl h))) (hcb : ∀ h : Nat → Int64, sd.2.1 q.2.2.1 q.2.2.2 b (μ b) h = .inl (q.2.2.2 2, n1, .inr (.inl h))) (hd : decode cc pc = .ok (.invokestatic index, 3)) (k : ∀ ν', R sd q z nL φ (g ν') μ ν' (pc + 3) lv st) : R sd q z nL φ ((cpL ν a n0 sp b n1 dp n).bind g) μ ν pc lv (.int n :: .int dp :: .ref (q.2.2.1 b) :: .int sp :: .ref (q.2.2.1 a) :: st) := by
  refine R_bind (fun m' hm' => ?_)
  obtain ⟨h1, rfl⟩ := gd_some hm'
  intro out ho ls H locs hl hP hS
  obtain ⟨i, hi', he⟩ := wd_get (q := q) (μ := μ) (ν := ν) ha
  obtain ⟨j, hj', he'⟩ := wd_get (q := q) (μ := μ) (ν := ν) hb
  have hg := C.2.2.2.2.2.2.2.2.2.2
  rw [hca] at he
  rw [hcb] at he'
  obtain ⟨r1, r2, r3, r4⟩ := rm_fr C.2.2.2.2.2.1 hrk
  simp only [not_or, Nat.not_lt] at h1
  refine va_copyl C.1 C.2.1 (C.2.2.1.trans hl.1.symm) C.2.2.2.1 (C.2.2.2.2.1 _ hm) (C.2.2.2.2.1 _ hna) (C.2.2.2.2.1 _ hs) (C.2.2.2.2.1 _ hi) C.2.2.2.2.2.2.1 hP (wd_D hg μ ν _) hS i j 2 2 he he' rfl rfl rfl h1.1 h1.2.1 h1.2.2.1 h1.2.2.2.1 h1.2.2.2.2 (fun _ _ => rfl) r1 (nw_ok hw r2) hd (fun H1 locs1 hP1 hD1 hS1 => ?_)
  rw [wd_put (μ' := μ) (ν' := fun c => if c = b then va_cpy (ν a) (ν b) sp.toNatClampNeg dp.toNatClampNeg n.toNatClampNeg else ν c) hg.1 hj' (fun _ _ => rfl) (fun c hc => if_neg hc) (by rw [if_pos rfl]; exact hcb _)] at hP1
  exact k _ out ho ls H1 locs1 hl hP1 hS1
theorem Ct_of {y : MethodName} (hy : plainName y.cls = true) (hg : GOk sd q) (k : ∀ z : ZT, Ctx sd q z cc y.cls nL rk ret → R sd q z nL φ f μ ν 0 (lv_args 0 av) []) (hlen : (lg_sl av).length ≤ nL) {out : β} (ho : f = some out) : Ct sd q y cc nL ret rk av μ ν (φ out).1 (φ out).2.1 (φ out).2.2 := by
  intro sz
  refine Met.ofW (cc := cc) (maxL := nL) (ret := ret) hy rfl ?_
  intro p e s m args below meth c s₁ B hml hv
  obtain ⟨rfl, hsz, hP, hK, hE⟩ := hv
  subst hsz
  have hts := atoms_spec (ws := wsG y cc nL ret) B.pre
  have C : Ctx sd q ((p, e, (headSpec (wsG y cc nL ret) (rmG rk)).room, s), (m, av.toArray, below, meth, c)) cc y.cls nL rk ret := ⟨B.exec, B.bytes, hml, findClass_of_methodNamed B.named, fun w hw => hts w (List.mem_cons_of_mem _ hw), rfl, hK, hE, B.notSynchronized, B.returns, hg⟩
  have hl := lv_entry av (n := nL) hlen
  have key := k _ C out ho _ s.heap [] hl hP va_S.rf
  rw [lg_entry_eq]
  exact key
end RE
end
