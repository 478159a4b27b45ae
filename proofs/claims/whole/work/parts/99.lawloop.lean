/-! the loop of the law -/
theorem d_law_18 : decode code 18 = .ok (.iload_n 3, 1) := by decide +kernel
theorem d_law_19 : decode code 19 = .ok (.aload_n 0, 1) := by decide +kernel
theorem d_law_20 : decode code 20 = .ok (.arraylength, 1) := by decide +kernel
theorem d_law_21 : decode code 21 = .ok (.bipush 6, 2) := by decide +kernel
theorem d_law_23 : decode code 23 = .ok (.isub, 1) := by decide +kernel
theorem d_law_24 : decode code 24 = .ok (.if_icmp .gt 1298, 3) := by decide +kernel
theorem d_law_27 : decode code 27 = .ok (.aload_n 0, 1) := by decide +kernel
theorem d_law_28 : decode code 28 = .ok (.iload_n 3, 1) := by decide +kernel
theorem d_law_29 : decode code 29 = .ok (.iaload, 1) := by decide +kernel
theorem d_law_30 : decode code 30 = .ok (.bipush 63, 2) := by decide +kernel
theorem d_law_32 : decode code 32 = .ok (.iand, 1) := by decide +kernel
theorem d_law_33 : decode code 33 = .ok (.tableswitch 1283 0 36 #[163, 196, 229, 262, 311, 344, 387, 410, 423, 446, 469, 502, 525, 548, 571, 594, 617, 640, 673, 696, 729, 763, 787, 820, 843, 876, 889, 922, 935, 948, 991, 1014, 1047, 1070, 1113, 1186, 1220], 163) := by decide +kernel
theorem d_law_1316 : decode code 1316 = .ok (.iinc 3 6, 3) := by decide +kernel
theorem d_law_1319 : decode code 1319 = .ok (.goto (-1301), 3) := by decide +kernel
theorem d_law_1322 : decode code 1322 = .ok (.iconst 1, 1) := by decide +kernel
theorem d_law_1323 : decode code 1323 = .ok (.ireturn, 1) := by decide +kernel
theorem sub6 {L i : Nat} (hL : L ≤ 3072) (hi : i ≤ 4000) : (nI L - 6 < nI i) ↔ L < i + 6 := by
  have hs : (nI L - nI 6).toInt = (L : Int) - 6 := by
    rw [Int32.toInt_sub, nI_toInt (by omega), nI_toInt (by omega), Int.bmod_eq_of_le (by omega) (by omega)]
    rfl
  rw [Int32.lt_iff_toInt_lt, show (nI L - 6) = nI L - nI 6 from rfl, hs, nI_toInt (by omega)]
  omega
theorem and63 (x : Int32) : ∃ n, n < 64 ∧ x &&& 63 = nI n := by
  refine ⟨x.toBitVec.toNat &&& 63, Nat.lt_of_le_of_lt Nat.and_le_right (by omega), ?_⟩
  apply Int32.toBitVec_inj.mp
  apply BitVec.eq_of_toNat_eq
  have h : x.toBitVec.toNat &&& 63 < 2 ^ 32 := Nat.lt_of_le_of_lt Nat.and_le_right (by omega)
  show (x.toBitVec &&& (63 : Int32).toBitVec).toNat = (BitVec.ofNat 32 (x.toBitVec.toNat &&& 63)).toNat
  rw [BitVec.toNat_and, BitVec.toNat_ofNat, Nat.mod_eq_of_lt h]
  rfl
theorem lv6 {L i : Nat} (hL : L ≤ 3072) (h : i + 6 ≤ L) : LV (nI i) L ∧ vp_in (nI i) L := by
  have g : ∀ k, k < 6 → vp_in (nI i + nI k) L := fun k hk => by
    rw [nI_add]
    exact vp_in_nI (by omega) (by omega)
  exact ⟨⟨g 1 (by omega), g 2 (by omega), g 3 (by omega), g 4 (by omega), g 5 (by omega)⟩, vp_in_nI (by omega) (by omega)⟩
section LP
variable {l : Launch} {D : va_G} {cy : Nat → ClassId} {al alM : Nat → Nat} {z : ZT} {b L : Nat} {xs : Nat → Int32} {Q : State → Prop} {μ : Mm} {ν : Ml} {μ' : Mm} {ν' : Ml}
def lvL (b x y : Nat) (i : Int32) : List (Nat × Value) := [(0, .ref b), (1, .ref x), (2, .ref y), (3, .int i)]
set_option maxRecDepth 10000 in
theorem law_switch {i v : Int32} {n : Nat} (C : LC l D cy al alM z b L xs) (I : Inv μ ν μ' ν') (hv : LV i L) (hn6 : n < 64) (hvn : v = nI n) (k : ∀ μ1 ν1 μ1' ν1', Inv μ1 ν1 μ1' ν1' → LW l D cy al alM z Q μ1 ν1 μ1' ν1' 1316 (lvL b (al 0) (alM 0) i) []) : LW l D cy al alM z Q μ ν μ' ν' 33 (lvL b (al 0) (alM 0) i) [.int v] := by
  intro ls H locs hl hP hM hS
  subst hvn
  rcases (show n = 0 ∨ n = 1 ∨ n = 2 ∨ n = 3 ∨ n = 4 ∨ n = 5 ∨ n = 6 ∨ n = 7 ∨ n = 8 ∨ n = 9 ∨ n = 10 ∨ n = 11 ∨ n = 12 ∨ n = 13 ∨ n = 14 ∨ n = 15 ∨ n = 16 ∨ n = 17 ∨ n = 18 ∨ n = 19 ∨ n = 20 ∨ n = 21 ∨ n = 22 ∨ n = 23 ∨ n = 24 ∨ n = 25 ∨ n = 26 ∨ n = 27 ∨ n = 28 ∨ n = 29 ∨ n = 30 ∨ n = 31 ∨ n = 32 ∨ n = 33 ∨ n = 34 ∨ n = 35 ∨ n = 36 ∨ 37 ≤ n by omega) with rfl | rfl | rfl | rfl | rfl | rfl | rfl | rfl | rfl | rfl | rfl | rfl | rfl | rfl | rfl | rfl | rfl | rfl | rfl | rfl | rfl | rfl | rfl | rfl | rfl | rfl | rfl | rfl | rfl | rfl | rfl | rfl | rfl | rfl | rfl | rfl | rfl | hn
  · exact lv_tableIn C.1 C.2.1 (tgt := 196) d_law_33 (by decide) (by decide) (off := 163) (by decide) (by decide) (lc_0 C I hv k ls H locs hl hP hM hS)
  · exact lv_tableIn C.1 C.2.1 (tgt := 229) d_law_33 (by decide) (by decide) (off := 196) (by decide) (by decide) (lc_1 C I hv k ls H locs hl hP hM hS)
  · exact lv_tableIn C.1 C.2.1 (tgt := 262) d_law_33 (by decide) (by decide) (off := 229) (by decide) (by decide) (lc_2 C I hv k ls H locs hl hP hM hS)
  · exact lv_tableIn C.1 C.2.1 (tgt := 295) d_law_33 (by decide) (by decide) (off := 262) (by decide) (by decide) (lc_3 C I hv k ls H locs hl hP hM hS)
  · exact lv_tableIn C.1 C.2.1 (tgt := 344) d_law_33 (by decide) (by decide) (off := 311) (by decide) (by decide) (lc_4 C I hv k ls H locs hl hP hM hS)
  · exact lv_tableIn C.1 C.2.1 (tgt := 377) d_law_33 (by decide) (by decide) (off := 344) (by decide) (by decide) (lc_5 C I hv k ls H locs hl hP hM hS)
  · exact lv_tableIn C.1 C.2.1 (tgt := 420) d_law_33 (by decide) (by decide) (off := 387) (by decide) (by decide) (lc_6 C I hv k ls H locs hl hP hM hS)
  · exact lv_tableIn C.1 C.2.1 (tgt := 443) d_law_33 (by decide) (by decide) (off := 410) (by decide) (by decide) (lc_7 C I hv k ls H locs hl hP hM hS)
  · exact lv_tableIn C.1 C.2.1 (tgt := 456) d_law_33 (by decide) (by decide) (off := 423) (by decide) (by decide) (lc_8 C I hv k ls H locs hl hP hM hS)
  · exact lv_tableIn C.1 C.2.1 (tgt := 479) d_law_33 (by decide) (by decide) (off := 446) (by decide) (by decide) (lc_9 C I hv k ls H locs hl hP hM hS)
  · exact lv_tableIn C.1 C.2.1 (tgt := 502) d_law_33 (by decide) (by decide) (off := 469) (by decide) (by decide) (lc_10 C I hv k ls H locs hl hP hM hS)
  · exact lv_tableIn C.1 C.2.1 (tgt := 535) d_law_33 (by decide) (by decide) (off := 502) (by decide) (by decide) (lc_11 C I hv k ls H locs hl hP hM hS)
  · exact lv_tableIn C.1 C.2.1 (tgt := 558) d_law_33 (by decide) (by decide) (off := 525) (by decide) (by decide) (lc_12 C I hv k ls H locs hl hP hM hS)
  · exact lv_tableIn C.1 C.2.1 (tgt := 581) d_law_33 (by decide) (by decide) (off := 548) (by decide) (by decide) (lc_13 C I hv k ls H locs hl hP hM hS)
  · exact lv_tableIn C.1 C.2.1 (tgt := 604) d_law_33 (by decide) (by decide) (off := 571) (by decide) (by decide) (lc_14 C I hv k ls H locs hl hP hM hS)
  · exact lv_tableIn C.1 C.2.1 (tgt := 627) d_law_33 (by decide) (by decide) (off := 594) (by decide) (by decide) (lc_15 C I hv k ls H locs hl hP hM hS)
  · exact lv_tableIn C.1 C.2.1 (tgt := 650) d_law_33 (by decide) (by decide) (off := 617) (by decide) (by decide) (lc_16 C I hv k ls H locs hl hP hM hS)
  · exact lv_tableIn C.1 C.2.1 (tgt := 673) d_law_33 (by decide) (by decide) (off := 640) (by decide) (by decide) (lc_17 C I hv k ls H locs hl hP hM hS)
  · exact lv_tableIn C.1 C.2.1 (tgt := 706) d_law_33 (by decide) (by decide) (off := 673) (by decide) (by decide) (lc_18 C I hv k ls H locs hl hP hM hS)
  · exact lv_tableIn C.1 C.2.1 (tgt := 729) d_law_33 (by decide) (by decide) (off := 696) (by decide) (by decide) (lc_19 C I hv k ls H locs hl hP hM hS)
  · exact lv_tableIn C.1 C.2.1 (tgt := 762) d_law_33 (by decide) (by decide) (off := 729) (by decide) (by decide) (lc_20 C I hv k ls H locs hl hP hM hS)
  · exact lv_tableIn C.1 C.2.1 (tgt := 796) d_law_33 (by decide) (by decide) (off := 763) (by decide) (by decide) (lc_21 C I hv k ls H locs hl hP hM hS)
  · exact lv_tableIn C.1 C.2.1 (tgt := 820) d_law_33 (by decide) (by decide) (off := 787) (by decide) (by decide) (lc_22 C I hv k ls H locs hl hP hM hS)
  · exact lv_tableIn C.1 C.2.1 (tgt := 853) d_law_33 (by decide) (by decide) (off := 820) (by decide) (by decide) (lc_23 C I hv k ls H locs hl hP hM hS)
  · exact lv_tableIn C.1 C.2.1 (tgt := 876) d_law_33 (by decide) (by decide) (off := 843) (by decide) (by decide) (lc_24 C I hv k ls H locs hl hP hM hS)
  · exact lv_tableIn C.1 C.2.1 (tgt := 909) d_law_33 (by decide) (by decide) (off := 876) (by decide) (by decide) (lc_25 C I hv k ls H locs hl hP hM hS)
  · exact lv_tableIn C.1 C.2.1 (tgt := 922) d_law_33 (by decide) (by decide) (off := 889) (by decide) (by decide) (lc_26 C I hv k ls H locs hl hP hM hS)
  · exact lv_tableIn C.1 C.2.1 (tgt := 955) d_law_33 (by decide) (by decide) (off := 922) (by decide) (by decide) (lc_27 C I hv k ls H locs hl hP hM hS)
  · exact lv_tableIn C.1 C.2.1 (tgt := 968) d_law_33 (by decide) (by decide) (off := 935) (by decide) (by decide) (lc_28 C I hv k ls H locs hl hP hM hS)
  · exact lv_tableIn C.1 C.2.1 (tgt := 981) d_law_33 (by decide) (by decide) (off := 948) (by decide) (by decide) (lc_29 C I hv k ls H locs hl hP hM hS)
  · exact lv_tableIn C.1 C.2.1 (tgt := 1024) d_law_33 (by decide) (by decide) (off := 991) (by decide) (by decide) (lc_30 C I hv k ls H locs hl hP hM hS)
  · exact lv_tableIn C.1 C.2.1 (tgt := 1047) d_law_33 (by decide) (by decide) (off := 1014) (by decide) (by decide) (lc_31 C I hv k ls H locs hl hP hM hS)
  · exact lv_tableIn C.1 C.2.1 (tgt := 1080) d_law_33 (by decide) (by decide) (off := 1047) (by decide) (by decide) (lc_32 C I hv k ls H locs hl hP hM hS)
  · exact lv_tableIn C.1 C.2.1 (tgt := 1103) d_law_33 (by decide) (by decide) (off := 1070) (by decide) (by decide) (lc_33 C I hv k ls H locs hl hP hM hS)
  · exact lv_tableIn C.1 C.2.1 (tgt := 1146) d_law_33 (by decide) (by decide) (off := 1113) (by decide) (by decide) (lc_34 C I hv k ls H locs hl hP hM hS)
  · exact lv_tableIn C.1 C.2.1 (tgt := 1219) d_law_33 (by decide) (by decide) (off := 1186) (by decide) (by decide) (lc_35 C I hv k ls H locs hl hP hM hS)
  · exact lv_tableIn C.1 C.2.1 (tgt := 1253) d_law_33 (by decide) (by decide) (off := 1220) (by decide) (by decide) (lc_36 C I hv k ls H locs hl hP hM hS)
  · exact lv_tableOut C.1 C.2.1 (tgt := 1316) d_law_33 (Or.inr (by rw [nI_toInt (by omega)]; omega)) (by decide) (k μ ν μ' ν' I ls H locs hl hP hM hS)
theorem law_loop (C : LC l D cy al alM z b L xs) (hL : L ≤ 3072) (hend : ∀ (ls : Array Slot) (H : Heap), W z.1.1 l z.1.2.1 z.1.2.2.1 z.1.2.2.2 z.2.1 z.2.2.1 z.2.2.2.1 z.2.2.2.2.1 z.2.2.2.2.2 H [] 600000 7302250 Q (F0 z.2.1 1323 ls [.int 1])) : ∀ (n i : Nat) (μ : Mm) (ν : Ml) (μ' : Mm) (ν' : Ml), i ≤ 3078 → L < i + 6 * n → Inv μ ν μ' ν' → LW l D cy al alM z Q μ ν μ' ν' 18 (lvL b (al 0) (alM 0) (nI i)) [] := by
  intro n
  induction n with
  | zero =>
    intro i μ ν μ' ν' h0 h1 I ls H locs hl hP hM hS
    refine lv_iload_n C.1 C.2.1 d_law_18 rfl (lv_at hl 3 rfl) ?_
    refine lv_aload_n C.1 C.2.1 d_law_19 rfl (lv_at hl 0 rfl) ?_
    refine va_slen C.1 C.2.1 C.2.2.2.2.2.2.2.2.1 C.2.2.2.2.2.2.2.2.2.1 (Nat.not_le.mpr C.2.2.2.2.2.2.2.2.2.1) hS d_law_20 ?_
    refine lv_bipush (v := 6) C.1 C.2.1 d_law_21 (by decide) (lv_isub C.1 C.2.1 d_law_23 ?_)
    refine lv_icmp_gt (tgt := 1322) C.1 C.2.1 d_law_24 (by decide) (fun _ => ?_) (fun h => ?_)
    · exact lv_iconst (v := 1) C.1 C.2.1 d_law_1322 (by decide) (va_forget (fun q hq => hS.2.2 q hq) (hend ls H))
    · exact absurd ((sub6 hL (by omega)).mpr (by omega)) h
  | succ n ih =>
    intro i μ ν μ' ν' h0 h1 I ls H locs hl hP hM hS
    refine lv_iload_n C.1 C.2.1 d_law_18 rfl (lv_at hl 3 rfl) ?_
    refine lv_aload_n C.1 C.2.1 d_law_19 rfl (lv_at hl 0 rfl) ?_
    refine va_slen C.1 C.2.1 C.2.2.2.2.2.2.2.2.1 C.2.2.2.2.2.2.2.2.2.1 (Nat.not_le.mpr C.2.2.2.2.2.2.2.2.2.1) hS d_law_20 ?_
    refine lv_bipush (v := 6) C.1 C.2.1 d_law_21 (by decide) (lv_isub C.1 C.2.1 d_law_23 ?_)
    refine lv_icmp_gt (tgt := 1322) C.1 C.2.1 d_law_24 (by decide) (fun _ => ?_) (fun h => ?_)
    · exact lv_iconst (v := 1) C.1 C.2.1 d_law_1322 (by decide) (va_forget (fun q hq => hS.2.2 q hq) (hend ls H))
    · have h6 : i + 6 ≤ L := Nat.not_lt.mp (fun q => h ((sub6 hL (by omega)).mpr q))
      obtain ⟨hv, h0i⟩ := lv6 hL h6
      refine lv_aload_n C.1 C.2.1 d_law_27 rfl (lv_at hl 0 rfl) ?_
      refine lv_iload_n C.1 C.2.1 d_law_28 rfl (lv_at hl 3 rfl) ?_
      refine va_sld C.1 C.2.1 C.2.2.2.2.2.2.2.2.1 C.2.2.2.2.2.2.2.2.2.1 (Nat.not_le.mpr C.2.2.2.2.2.2.2.2.2.1) hS h0i d_law_29 ?_
      refine lv_bipush (v := 63) C.1 C.2.1 d_law_30 (by decide) (lv_iand C.1 C.2.1 d_law_32 ?_)
      obtain ⟨c, hc, ec⟩ := and63 (xs (nI i).toNatClampNeg)
      refine law_switch C I hv hc ec (fun μ1 ν1 μ1' ν1' I1 => ?_) ls H locs hl hP hM hS
      intro ls H locs hl hP hM hS
      refine lv_iinc (v := nI (i + 6)) (lv' := [(3, .int (nI (i + 6))), (0, .ref b), (1, .ref (al 0)), (2, .ref (alM 0))]) C.1 C.2.1 d_law_1316 hl (k := 3) rfl (by show nI i + nI 6 = nI (i + 6); rw [nI_add]) (by decide) rfl (fun ls hl => ?_)
      have hl2 : lv_has ls 4 (lvL b (al 0) (alM 0) (nI (i + 6))) := lv_sub hl [1, 2, 3, 0] rfl
      refine lv_goto (tgt := 18) C.1 C.2.1 d_law_1319 (by decide) ?_
      exact ih (i + 6) μ1 ν1 μ1' ν1' (by omega) (by omega) I1 ls H locs hl2 hP hM hS
end LP
