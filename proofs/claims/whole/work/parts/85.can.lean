/-! can -/
def cv (rs : Rsp) (σ : Sg) (p w : Nat) : Sg := row (ups σ 2 p w) 6 (mth rs (ups σ 2 p w) (6 * p) (6 * (p + 1)))
theorem cv_cv {rs : Rsp} {σ : Sg} {p w w' : Nat} : cv rs (cv rs σ p w) p w' = cv rs σ p w' := by
  funext a j
  show (if a = 6 then mth rs (ups (cv rs σ p w) 2 p w') (6 * p) (6 * (p + 1)) else ups (cv rs σ p w) 2 p w' a) j = (if a = 6 then mth rs (ups σ 2 p w') (6 * p) (6 * (p + 1)) else ups σ 2 p w' a) j
  by_cases a6 : a = 6
  · rw [if_pos a6, if_pos a6]
    unfold mth
    by_cases c : 6 * p ≤ j ∧ j < 6 * (p + 1)
    · rw [if_pos c, if_pos c]
      have e : j / 6 = p := by omega
      rw [e, ups_e, ups_e, ups_n (by omega), ups_n (by omega)]
      show rs.2.2 p (j % 6) (ups σ 2 p w 1 p) w' = _
      rw [ups_n (by omega)]
    · rw [if_neg c, if_neg c, ups_n (by omega), ups_n (by omega)]
      show mth rs (ups σ 2 p w) (6 * p) (6 * (p + 1)) j = σ 6 j
      unfold mth
      rw [if_neg c, ups_n (by omega)]
  · rw [if_neg a6, if_neg a6]
    by_cases c : a = 2 ∧ j = p
    · rw [c.1, c.2, ups_e, ups_e]
    · rw [ups_n (by omega), ups_n (by omega)]
      show (if a = 6 then _ else ups σ 2 p w a) j = σ a j
      rw [if_neg a6, ups_n (by omega)]
theorem cv_o {rs : Rsp} {σ : Sg} {p w a : Nat} (h6 : a ≠ 6) (h2 : a ≠ 2) : cv rs σ p w a = σ a := by
  show (if a = 6 then _ else ups σ 2 p w a) = σ a
  rw [if_neg h6]
  funext j
  exact ups_n (by omega)
theorem SX.cv {b p w : Nat} {rs : Rsp} {σ : Sg} {μ : Mm} (h : SX b σ μ) : SX b (cv rs σ p w) μ := by
  unfold SX
  rw [cv_o (a := 7) (by omega) (by omega), cv_o (a := 8) (by omega) (by omega), cv_o (a := 9) (by omega) (by omega), cv_o (a := 10) (by omega) (by omega), cv_o (a := 11) (by omega) (by omega), cv_o (a := 12) (by omega) (by omega), cv_o (a := 13) (by omega) (by omega), cv_o (a := 14) (by omega) (by omega), cv_o (a := 15) (by omega) (by omega), cv_o (a := 16) (by omega) (by omega)]
  exact h
theorem MX.cv {p w : Nat} {rs : Rsp} {σ : Sg} {μ : Mm} (h : MX σ μ) : MX (cv rs σ p w) μ := by
  unfold MX
  rw [cv_o (a := 7) (by omega) (by omega), cv_o (a := 8) (by omega) (by omega), cv_o (a := 9) (by omega) (by omega), cv_o (a := 10) (by omega) (by omega), cv_o (a := 11) (by omega) (by omega), cv_o (a := 12) (by omega) (by omega), cv_o (a := 13) (by omega) (by omega), cv_o (a := 14) (by omega) (by omega), cv_o (a := 15) (by omega) (by omega), cv_o (a := 16) (by omega) (by omega)]
  exact h
theorem BX.cv {p w : Nat} {rs : Rsp} {σ : Sg} (h : BX σ) : BX (cv rs σ p w) := by
  unfold BX
  rw [cv_o (a := 7) (by omega) (by omega), cv_o (a := 8) (by omega) (by omega), cv_o (a := 9) (by omega) (by omega), cv_o (a := 10) (by omega) (by omega), cv_o (a := 11) (by omega) (by omega), cv_o (a := 12) (by omega) (by omega), cv_o (a := 13) (by omega) (by omega), cv_o (a := 14) (by omega) (by omega), cv_o (a := 15) (by omega) (by omega), cv_o (a := 16) (by omega) (by omega)]
  exact h
theorem BW_v {σ : Sg} {p w : Nat} (B : BW σ) (hw : w ≤ 9) : BW (ups σ 2 p w) := by
  obtain ⟨b1, b2, b3, b4, b5, b6, b7, b8, b9⟩ := B
  refine ⟨b1, b2, b3, b4, b5, b6, b7, fun q => ?_, b9⟩
  by_cases c : q = p
  · rw [c, ups_e]; exact hw
  · rw [ups_n (by omega)]; exact b8 q
theorem BW_cv {rs : Rsp} {σ : Sg} {p w : Nat} (B : BW σ) (R : RB rs) (hw : w ≤ 9) : BW (cv rs σ p w) := BW_row6 (BW_v B hw) (mth_le (BW_v B hw) R _ _)
theorem MO_cv {rs : Rsp} {σ : Sg} {p w : Nat} (O : MO rs σ) : MO rs (cv rs σ p w) := by
  obtain ⟨o1, o2, o3⟩ := O
  refine ⟨o1, o2, fun q d hq hd => ?_⟩
  show mth rs (ups σ 2 p w) (6 * p) (6 * (p + 1)) (q * 6 + d) = rs.2.2 q d (ups σ 2 p w 1 q) (ups σ 2 p w 2 q)
  unfold mth
  by_cases c : q = p
  · rw [if_pos (by omega), show (q * 6 + d) / 6 = q by omega, show (q * 6 + d) % 6 = d by omega]
  · rw [if_neg (by omega), ups_n (by omega), ups_n (by omega), ups_n (by omega)]
    exact o3 q d hq hd
theorem SR_v {b p w : Nat} {σ : Sg} {μ : Mm} (S : SR b σ μ) : SR b (ups σ 2 p w) (up2 μ (b + 2) p (nI w)) := by
  obtain ⟨s1, s2, s3, s4, s5, s6, s7, s8, s9, s10, s11, s12, s13⟩ := S
  have e : ckm (ups σ 2 p w) = ckm σ := rfl
  unfold SR
  rw [u_cf (c := b) (by omega), u_cf (c := b + 1) (by omega), u_cf (c := b + 3) (by omega), u_cf (c := b + 4) (by omega), u_cf (c := b + 5) (by omega), u_cf (c := b + 6) (by omega), e]
  refine ⟨s1, s2, s3, s4, s5, s6, s7, s8, fun q hq => ?_, s10, s11, s12, s13⟩
  by_cases c : q = p
  · rw [c, u_eq rfl rfl, ups_e]
  · rw [u_nj c, ups_n (by omega)]; exact s9 q hq
theorem MR_v {p w : Nat} {σ : Sg} {μ : Mm} (S : MR σ μ) : MR (ups σ 2 p w) (up2 μ 5 p (nI w)) := by
  obtain ⟨s1, s2, s3, s4, s5, s6, s7, s8, s9⟩ := S
  unfold MR
  rw [u_cf (c := 0) (by omega), u_cf (c := 4) (by omega), u_cf (c := 6) (by omega), u_cf (c := 7) (by omega), u_cf (c := 8) (by omega)]
  refine ⟨s1, s2, s3, s4, s5, fun q hq => ?_, s7, s8, s9⟩
  by_cases c : q = p
  · rw [c, u_eq rfl rfl, ups_e]
  · rw [u_nj c, ups_n (by omega)]; exact s6 q hq
theorem ups_ups {σ : Sg} {i j x y : Nat} : ups (ups σ i j x) i j y = ups σ i j y := by
  funext a b
  by_cases c : a = i ∧ b = j
  · rw [c.1, c.2, ups_e, ups_e]
  · rw [ups_n (by omega), ups_n (by omega), ups_n (by omega)]
theorem ups_self {σ : Sg} {i j : Nat} : ups σ i j (σ i j) = σ := by
  funext a b
  by_cases c : a = i ∧ b = j
  · rw [c.1, c.2, ups_e]
  · rw [ups_n (by omega)]
/-- what is asked of HEARD leaves as it was -/
def TT (σ : Sg) (μ0 μ : Mm) : Prop := MR σ μ ∧ (∀ c, c ≠ 0 → c ≠ 26 → μ c = μ0 c) ∧ ∀ j, j ≠ 2 → j ≠ 3 → μ 0 j = μ0 0 j
theorem mhrd2L {rs : Rsp} {σ : Sg} {μ0 : Mm} (K : MK rs μ0) (O : MO rs σ) (B : BW σ) (hw : σ 0 1 ≤ 19900) (C : BX σ) (X : MX σ μ0) (k : Int32 → Mm → Option (Int32 × Mm)) : ∀ d j, j + d = σ 7 0 → ∀ n, d < n → ∀ x s1, x = nI j → s1 = 1 → ∀ μ, TT σ μ0 μ → ∃ μ1, L_M_isHeard_15 (nI (σ 0 2)) (nI (σ 0 1)) k n s1 x μ = k (b2i (isHf σ d j)) μ1 ∧ TT σ μ0 μ1 := by
  have h7 := C.1
  have hb2 := B.2.2.1
  intro d
  induction d with
  | zero =>
    intro j hj n hn x s1 hx h1 μ T
    obtain ⟨N1, rfl⟩ : ∃ N, n = N + 1 := ⟨n - 1, by omega⟩
    subst hx h1
    have x34 : μ 0 34 = nI (σ 7 0) := (T.2.2 34 (by omega) (by omega)).trans X.2.1.1
    rw [L_M_isHeard_15, x34, ite_le (by omega) (by omega), if_pos (by omega)]
    exact ⟨μ, rfl, T⟩
  | succ d ih =>
    intro j hj n hn x s1 hx h1 μ T
    obtain ⟨N1, rfl⟩ : ∃ N, n = N + 1 := ⟨n - 1, by omega⟩
    subst hx h1
    have w8 := C.2.2.2.1 j
    have w9 := C.2.2.2.2.1 j
    obtain ⟨z1, z2⟩ := X.2.1.2 j (by omega)
    have x34 : μ 0 34 = nI (σ 7 0) := (T.2.2 34 (by omega) (by omega)).trans X.2.1.1
    have x36 : μ 36 j = nI (σ 9 j) := by rw [T.2.1 36 (by omega) (by omega)]; exact z2
    have Sw : MR (ups (ups σ 0 2 (min 99 (σ 0 2 + σ 9 j))) 0 1 (σ 0 1 + σ 9 j)) (up2 (up2 μ 0 2 (nI (min 99 (σ 0 2 + σ 9 j)))) 0 3 (nI (σ 0 1 + σ 9 j))) := MR_week (MR_wear T.1)
    have hm : min 99 (σ 0 2 + σ 9 j) ≤ 99 := Nat.min_le_left _ _
    have B1 : BW (ups (ups σ 0 2 (min 99 (σ 0 2 + σ 9 j))) 0 1 (σ 0 1 + σ 9 j)) := BW_week (BW_wear B hm) (by omega)
    have sb : SB σ (ups (ups σ 0 2 (min 99 (σ 0 2 + σ 9 j))) 0 1 (σ 0 1 + σ 9 j)) := (SB.ups (by omega)).tr (SB.ups (by omega))
    have K1 : MK rs (up2 (up2 μ 0 2 (nI (min 99 (σ 0 2 + σ 9 j)))) 0 3 (nI (σ 0 1 + σ 9 j))) := K.mv (by rw [u_nj (by omega), u_nj (by omega)]; exact T.2.2 10 (by omega) (by omega)) (fun c a b => by rw [u_cf (by omega), u_cf (by omega)]; exact T.2.1 c (by omega) (by omega))
    obtain ⟨μ2, n1, pw⟩ := m_noise Sw K1 (O.sb sb) B1
    have hns : ns (ups (ups σ 0 2 (min 99 (σ 0 2 + σ 9 j))) 0 1 (σ 0 1 + σ 9 j)) 0 = ns σ (σ 9 j) := ns_sh (s := σ 9 j) (t := 0) rfl rfl rfl rfl rfl rfl rfl rfl rfl rfl
    have l1 := ns_le B (σ 9 j)
    have S3 : MR σ (up2 (up2 μ2 0 2 (nI (σ 0 2))) 0 3 (nI (σ 0 1))) := by
      have h := MR_week (v := σ 0 1) (MR_wear (v := σ 0 2) (Sw.p26 pw))
      rw [ups_back] at h
      exact h
    have T3 : TT σ μ0 (up2 (up2 μ2 0 2 (nI (σ 0 2))) 0 3 (nI (σ 0 1))) := ⟨S3, fun c h0 h26 => by rw [u_cf h0, u_cf h0, pw c h26, u_cf h0, u_cf h0]; exact T.2.1 c h0 h26, fun i h2 h3 => by rw [u_nj h3, u_nj h2, pw 0 (by omega), u_nj h3, u_nj h2]; exact T.2.2 i h2 h3⟩
    have z1' : μ2 35 j = nI (σ 8 j) := by
      rw [pw 35 (by omega), u_nc (by omega), u_nc (by omega), T.2.1 35 (by omega) (by omega)]
      exact z1
    have eml : F_M_least (nI (σ 0 2 + σ 9 j)) 99 = some (nI (min 99 (σ 0 2 + σ 9 j))) := m_least (y := 99) (by omega) (by omega)
    have e3 : up2 μ 0 2 (nI (min 99 (σ 0 2 + σ 9 j))) 0 3 = nI (σ 0 1) := by rw [u_nj (by omega)]; exact T.1.2.1
    have z2' : up2 μ 0 2 (nI (min 99 (σ 0 2 + σ 9 j))) 36 j = nI (σ 9 j) := by rw [u_nc (by omega)]; exact x36
    rw [L_M_isHeard_15, x34, ite_le (by omega) (by omega), if_neg (by omega), if_neg one_ne, rdI_nI (by omega) (by omega), Option.bind_some, x36, T.1.2.2.1, nI_add, eml, Option.bind_some]
    rw [lt_e, rdI_nI (by omega) (by omega), Option.bind_some, lt_e, z2', e3, nI_add, n1, Option.bind_some]
    simp only []
    rw [rdI_nI (by omega) (by omega), Option.bind_some, jn_e, z1', hns, ite_eq (by omega) (by omega)]
    simp only [lt_e]
    show ∃ μ1, _ = k (b2i (decide (ns σ (σ 9 j) = σ 8 j) && isHf σ d (j + 1))) μ1 ∧ _
    by_cases c : ns σ (σ 9 j) = σ 8 j
    · rw [if_pos c, decide_eq_true c, Bool.true_and]
      exact ih (j + 1) (by omega) N1 (by omega) _ _ (nI_1 j) rfl _ T3
    · rw [if_neg c, decide_eq_false c, Bool.false_and]
      obtain ⟨N2, rfl⟩ : ∃ N, N1 = N + 1 := ⟨N1 - 1, by omega⟩
      rw [L_M_isHeard_15, if_pos rfl, ite_self]
      exact ⟨_, rfl, T3⟩
theorem m_hrd2 {rs : Rsp} {σ : Sg} {μ : Mm} (S : MR σ μ) (X : MX σ μ) (K : MK rs μ) (O : MO rs σ) (B : BW σ) (hw : σ 0 1 ≤ 19900) (C : BX σ) : ∃ μ1, F_M_isHeard μ = some (b2i (hrd σ), μ1) ∧ TT σ μ μ1 := by
  have h7 := C.1
  obtain ⟨μ1, e, T1⟩ := mhrd2L K O B hw C X (fun (x20 : Int32) (μ21 : Mm) => (rZ x20).bind fun r_ => some (r_, μ21)) (σ 7 0) 0 (by omega) fu (fu_gt (by omega)) 0 1 rfl rfl μ ⟨S, fun _ _ _ => rfl, fun _ _ _ => rfl⟩
  unfold F_M_isHeard
  rw [S.2.2.1, S.2.1, e, rZ_b, Option.bind_some]
  exact ⟨μ1, rfl, T1⟩
def CX (rs : Rsp) (σ : Sg) (p : Nat) (μ0 μ : Mm) : Prop := ∃ τ, SR 60 τ μ ∧ SX 60 τ μ ∧ BW τ ∧ τ 16 0 = σ 16 0 ∧ (∀ w, cv rs τ p w = cv rs σ p w) ∧ XJ μ0 μ
def CM (σ : Sg) (p : Nat) (μ0 μ : Mm) : Prop := (∃ w, MR (ups σ 2 p w) μ) ∧ (∀ c, c ≠ 0 → c ≠ 5 → c ≠ 26 → μ c = μ0 c) ∧ (∀ q, q ≠ p → μ 5 q = μ0 5 q) ∧ ∀ j, j ≠ 2 → j ≠ 3 → μ 0 j = μ0 0 j
theorem can1 {rs : Rsp} {σ : Sg} {p w : Nat} {μ0 μ : Mm} (hp : p < 6) (hw : w ≤ 9) (B0 : BW σ) (C0 : BX σ) (R : RB rs) (D : RDS (hdI (σ 16 0)) rs 60 μ0) (T : CX rs σ p μ0 μ) : ∃ μ1 μ2, wrI μ 62 6 (nI p) (nI w) = some μ1 ∧ F_Rooms_settles 60 (nI p) (nI p + 1) μ1 = some μ2 ∧ F_Seat_isAsHeard 60 μ2 = some (b2i (hrd (cv rs σ p w))) ∧ CX rs σ p μ0 μ2 := by
  obtain ⟨τ, t1, t2, t3, t4, t5, t6⟩ := T
  have S1 : SR 60 (ups τ 2 p w) (up2 μ 62 p (nI w)) := SR_v (b := 60) t1
  have h6 : up2 μ 62 p (nI w) 60 6 = hdI (σ 16 0) := by
    rw [u_nc (by omega), ← t4]
    exact t2.2.2.2
  have D1 : RDS (hdI (σ 16 0)) rs 60 (up2 μ 62 p (nI w)) := D.mv (fun c a b => by rw [u_cf (by omega)]; exact t6.1 c (by omega) (by omega) (by omega))
  obtain ⟨μ2, a1, a2, a3, a4⟩ := x_set (b := 60) (by omega) (BW_v t3 hw) D1 h6 S1 (lo := p) (hi := p + 1) (by omega) (by omega)
  have S2 : SR 60 (cv rs σ p w) μ2 := by
    rw [← t5 w]
    exact a2
  have X2 : SX 60 (cv rs σ p w) μ2 := by
    rw [← t5 w]
    refine SX.cv ?_
    exact t2.keep (fun c h1 h2 => by rw [a3 c (by omega) (by omega), u_cf (by omega)]) (by rw [a3 60 (by omega) (by omega), u_nc (by omega)])
  refine ⟨_, μ2, wrI_nI hp (by omega), by rw [nI_1]; exact a1, x_hrd S2 X2 (BW_cv B0 R hw) C0.cv rfl, cv rs σ p w, S2, X2, BW_cv B0 R hw, ?_, fun w' => cv_cv, ⟨fun c h1 h13 hc => by rw [a3 c h1 (by omega), u_cf (by omega)]; exact t6.1 c h1 h13 hc, by rw [a4, u_nc (by omega)]; exact t6.2⟩⟩
  exact congrFun (cv_o (by omega) (by omega)) 0
theorem can2 {rs : Rsp} {σ : Sg} {p w : Nat} {μ0 μ : Mm} (hp : p < 6) (hw : w ≤ 9) (B0 : BW σ) (C0 : BX σ) (R : RB rs) (K : MK rs μ0) (O : MO rs σ) (X : MX σ μ0) (hk : σ 0 1 ≤ 19900) (T : CM σ p μ0 μ) : ∃ μ1 μ2, wrI μ 5 6 (nI p) (nI w) = some μ1 ∧ F_M_isHeard μ1 = some (b2i (hrd (cv rs σ p w)), μ2) ∧ CM σ p μ0 μ2 := by
  obtain ⟨⟨w0, t1⟩, t2, t3, t4⟩ := T
  have S1 : MR (ups σ 2 p w) (up2 μ 5 p (nI w)) := by
    have h := MR_v (p := p) (w := w) t1
    rw [ups_ups] at h
    exact h
  have S2 : MR (cv rs σ p w) (up2 μ 5 p (nI w)) := S1
  have K2 : MK rs (up2 μ 5 p (nI w)) := K.mv (by rw [u_nc (by omega)]; exact t4 10 (by omega) (by omega)) (fun c a b => by rw [u_cf (by omega)]; exact t2 c (by omega) (by omega) (by omega))
  have X2 : MX σ (up2 μ 5 p (nI w)) := by
    have g : ∀ c, 33 < c → up2 μ 5 p (nI w) c = μ0 c := fun c hc => by rw [u_cf (by omega)]; exact t2 c (by omega) (by omega) (by omega)
    have g0 : ∀ j, 3 < j → up2 μ 5 p (nI w) 0 j = μ0 0 j := fun j hj => by rw [u_nc (by omega)]; exact t4 j (by omega) (by omega)
    unfold MX
    rw [g0 10 (by omega), g0 34 (by omega), g0 37 (by omega), g0 38 (by omega), g 35 (by omega), g 36 (by omega), g 39 (by omega), g 40 (by omega), g 41 (by omega), g 42 (by omega)]
    exact X
  obtain ⟨μ2, a1, a2, a3, a4⟩ := m_hrd2 S2 X2.cv K2 (MO_cv O) (BW_cv B0 R hw) hk C0.cv
  exact ⟨_, μ2, wrI_nI hp (by omega), a1, ⟨w, a2⟩, fun c h0 h5 h26 => by rw [a3 c h0 h26, u_cf h5]; exact t2 c h0 h5 h26, fun q hq => by rw [a3 5 (by omega) (by omega), u_nj hq]; exact t3 q hq, fun j h2 h3 => by rw [a4 j h2 h3, u_nc (by omega)]; exact t4 j h2 h3⟩
theorem canL {rs : Rsp} {σ : Sg} {p : Nat} {μ0 μ0' : Mm} (hp : p < 6) (B0 : BW σ) (C0 : BX σ) (R : RB rs) (D : RDS (hdI (σ 16 0)) rs 60 μ0) (K : MK rs μ0') (O : MO rs σ) (X : MX σ μ0') (hk : σ 0 1 ≤ 19900) (a y : Int32) (k k' : Int32 → Int32 → Mm → Option (Int32 × Mm)) : ∀ d, d ≤ 10 → ∀ n n', d < n → d < n' → ∀ x s7 s8 μ μ', x = nI d - 1 → CX rs σ p μ0 μ → CM σ p μ0' μ' → ∃ r7 r8 μ1 μ1', L_BT_can_43 (nI p) a k n s7 s8 x μ = k r7 r8 μ1 ∧ L_M_can_38 (nI p) a y k' n' s7 s8 x μ' = k' r7 r8 μ1' ∧ CX rs σ p μ0 μ1 ∧ CM σ p μ0' μ1' := by
  intro d
  induction d with
  | zero =>
    intro _ n n' hn hn' x s7 s8 μ μ' hx T T'
    obtain ⟨N1, rfl⟩ : ∃ N, n = N + 1 := ⟨n - 1, by omega⟩
    obtain ⟨N1', rfl⟩ : ∃ N, n' = N + 1 := ⟨n' - 1, by omega⟩
    subst hx
    rw [L_BT_can_43, L_M_can_38, if_pos (show nI 0 - 1 < 0 by decide), if_pos (show nI 0 - 1 < 0 by decide)]
    exact ⟨s7, s8, μ, μ', rfl, rfl, T, T'⟩
  | succ d ih =>
    intro hd n n' hn hn' x s7 s8 μ μ' hx T T'
    obtain ⟨N1, rfl⟩ : ∃ N, n = N + 1 := ⟨n - 1, by omega⟩
    obtain ⟨N1', rfl⟩ : ∃ N, n' = N + 1 := ⟨n' - 1, by omega⟩
    have hx' : x = nI d := hx.trans (nI_s d 1)
    subst hx'
    obtain ⟨μ1, μ2, a1, a2, a3, a4⟩ := can1 hp (w := d) (by omega) B0 C0 R D T
    obtain ⟨μ1', μ2', b1, b2, b3⟩ := can2 hp (w := d) (by omega) B0 C0 R K O X hk T'
    rw [L_BT_can_43, L_M_can_38, if_neg (nn_not_neg (by omega)), if_neg (nn_not_neg (by omega)), a1, Option.bind_some, a2, Option.bind_some, a3, Option.bind_some, b1, Option.bind_some, b2, Option.bind_some, jn_e]
    simp only [jn_e, ite_b0]
    by_cases c : hrd (cv rs σ p d) = true
    · rw [if_pos c, if_pos c]
      exact ih (by omega) N1 N1' (by omega) (by omega) _ _ _ μ2 μ2' (add_m1 (nI d)) a4 b3
    · rw [if_neg c, if_neg c]
      exact ih (by omega) N1 N1' (by omega) (by omega) _ _ _ μ2 μ2' (add_m1 (nI d)) a4 b3
section CMD
variable {μ μ' : Mm} {ν ν' : Ml}
theorem st_can (I : Inv μ ν μ' ν') (a b : Int32) : ∃ r μ1 μ1', F_BT_can a b μ = some (r, μ1) ∧ F_M_can a b μ' = some (r, μ1') ∧ Inv μ1 ν μ1' ν' := by
  obtain ⟨n, rsf, L, tx, σ, τ, im, h1, h2, hs, h8, h9, h10, h11, h12⟩ := id I
  obtain ⟨h3, h4, h5, h6, h7⟩ := id hs
  have K : MK (rsH rsf (σ 16 0)) μ' := Inv_MK h1 h7.2.2.2.1 h6.1
  have B := h7.1
  have h66 := B.1
  unfold F_BT_can F_M_can
  rcases pup_c h3 h5 B a with ⟨p, hp, rfl, e1, e2⟩ | ⟨e1, e2⟩
  · rw [e1, e2, Option.bind_some, Option.bind_some, if_neg one_ne, if_neg one_ne, within_in]
    rcases in_lit (lo := 0) (hi := 1) (by omega) (by omega) b 0 1 rfl rfl with ⟨q, _, hq1, rfl, e⟩ | e
    · obtain ⟨μa, x1, x2⟩ := XT.start h3 h4 h7.2.1 (μ := μ) Off.rf
      have was : μ' 5 p = nI (σ 2 p) := h5.2.2.2.2.2.1 p (by omega)
      obtain ⟨r7, r8, μ1, μ1', f1, f2, f3, f4⟩ := canL (rs := rsH rsf (σ 16 0)) (σ := σ) (p := p) (μ0 := μ) (μ0' := μ') (by omega) B h7.2.1 (Inv_RB h1 h7.2.2.2.1) (Inv_RDS h1 h7.2.2.2.1 (by decide)) K h7.2.2.1 h6 (by have := h7.2.2.2.2.2.2; omega) (nI q) (nI (σ 2 p)) (fun (x21 : Int32) (x22 : Int32) (μ23 : Mm) => (if nI q = 0 then some (x21, μ23) else some (x22, μ23))) (fun (x20 : Int32) (x21 : Int32) (μ22 : Mm) => (wrI μ22 5 6 (nI p) (nI (σ 2 p))).bind fun μ23 => (if nI q = 0 then some (x20, μ23) else some (x21, μ23))) 10 (Nat.le_refl _) fu fu (fu_gt (by omega)) (fu_gt (by omega)) 9 0 (-5) μa μ' (by decide) ⟨σ, x2.1, x2.2.1, B, rfl, fun _ => rfl, XJ.off x2.2.2⟩ ⟨⟨σ 2 p, by rw [ups_self]; exact h5⟩, fun _ _ _ _ => rfl, fun _ _ => rfl, fun _ _ _ => rfl⟩
      rw [e, Option.bind_some, Option.bind_some, if_neg one_ne, if_neg one_ne, x1, Option.bind_some, rdI_nI (by omega) (by omega), was, Option.bind_some, f1, f2, wrI_nI (by omega) (by omega), Option.bind_some]
      obtain ⟨⟨w, g1⟩, g2, g3, g4⟩ := f4
      have S : MR σ (up2 μ1' 5 p (nI (σ 2 p))) := by
        have h := MR_v (p := p) (w := σ 2 p) g1
        rw [ups_ups, ups_self] at h
        exact h
      have my : MY μ' (up2 μ1' 5 p (nI (σ 2 p))) := by
        refine ⟨fun c hc => ?_, fun j hj => ?_⟩
        · by_cases c5 : c = 5
          · subst c5
            funext i
            by_cases ei : i = p
            · rw [ei, u_eq rfl rfl, was]
            · rw [u_nj ei, g3 i ei]
          · rw [u_cf c5, g2 c (by omega) c5 (by omega)]
        · rw [u_nc (by omega)]
          exact g4 j (by omega) (by omega)
      have fin : Inv μ1 ν (up2 μ1' 5 p (nI (σ 2 p))) ν' := by
        obtain ⟨_, _, _, _, _, _, xj⟩ := f3
        exact (Inv.ask h1 h2 hs h8 h9 h10 h11 h12 Off.rf my S (by rw [u_nc (by omega), g4 27 (by omega) (by omega)]; exact h12)).j xj MJ.rf
      by_cases c : nI q = 0
      · rw [if_pos c, if_pos c]
        exact ⟨_, _, _, rfl, rfl, fin⟩
      · rw [if_neg c, if_neg c]
        exact ⟨_, _, _, rfl, rfl, fin⟩
    · rw [e, Option.bind_some, Option.bind_some, if_pos rfl, if_pos rfl]
      exact ⟨_, _, _, rfl, rfl, I⟩
  · rw [e1, e2, Option.bind_some, Option.bind_some, if_pos rfl, if_pos rfl]
    exact ⟨_, _, _, rfl, rfl, I⟩
end CMD
