/-! where, odds, mean -/
theorem ups_back {σ : Sg} {x y : Nat} : ups (ups (ups (ups σ 0 2 x) 0 1 y) 0 2 (σ 0 2)) 0 1 (σ 0 1) = σ := by
  funext i j
  show (if i = 0 ∧ j = 1 then σ 0 1 else if i = 0 ∧ j = 2 then σ 0 2 else if i = 0 ∧ j = 1 then y else if i = 0 ∧ j = 2 then x else σ i j) = σ i j
  by_cases c1 : i = 0 ∧ j = 1
  · rw [if_pos c1, c1.1, c1.2]
  · rw [if_neg c1]
    by_cases c2 : i = 0 ∧ j = 2
    · rw [if_pos c2, c2.1, c2.2]
    · rw [if_neg c2, if_neg c1, if_neg c2]
theorem mhrdL {rs : Rsp} {σ0 σ : Sg} {μ0 : Mm} (K : MK rs μ0) (O : MO rs σ) (B : BW σ) (hw : σ 0 1 ≤ 19900) (C : BX σ) (k : Int32 → Mm → Option (Int32 × Mm)) : ∀ d j, j + d = σ 7 0 → ∀ n, d < n → ∀ x s1, x = nI j → s1 = 1 → ∀ μ, MT σ0 σ μ0 μ → MX σ μ → ∃ μ1, L_M_isHeard_15 (nI (σ 0 2)) (nI (σ 0 1)) k n s1 x μ = k (b2i (isHf σ d j)) μ1 ∧ MT σ0 σ μ0 μ1 := by
  have h7 := C.1
  have hb2 := B.2.2.1
  intro d
  induction d with
  | zero =>
    intro j hj n hn x s1 hx h1 μ T X
    obtain ⟨N1, rfl⟩ : ∃ N, n = N + 1 := ⟨n - 1, by omega⟩
    subst hx h1
    rw [L_M_isHeard_15, X.2.1.1, ite_le (by omega) (by omega), if_pos (by omega)]
    exact ⟨μ, rfl, T⟩
  | succ d ih =>
    intro j hj n hn x s1 hx h1 μ T X
    obtain ⟨N1, rfl⟩ : ∃ N, n = N + 1 := ⟨n - 1, by omega⟩
    subst hx h1
    have w8 := C.2.2.2.1 j
    have w9 := C.2.2.2.2.1 j
    obtain ⟨z1, z2⟩ := X.2.1.2 j (by omega)
    have Sw : MR (ups (ups σ 0 2 (min 99 (σ 0 2 + σ 9 j))) 0 1 (σ 0 1 + σ 9 j)) (up2 (up2 μ 0 2 (nI (min 99 (σ 0 2 + σ 9 j)))) 0 3 (nI (σ 0 1 + σ 9 j))) := MR_week (MR_wear T.1)
    have hm : min 99 (σ 0 2 + σ 9 j) ≤ 99 := Nat.min_le_left _ _
    have B1 : BW (ups (ups σ 0 2 (min 99 (σ 0 2 + σ 9 j))) 0 1 (σ 0 1 + σ 9 j)) := BW_week (BW_wear B hm) (by omega)
    have sb : SB σ (ups (ups σ 0 2 (min 99 (σ 0 2 + σ 9 j))) 0 1 (σ 0 1 + σ 9 j)) := (SB.ups (by omega)).tr (SB.ups (by omega))
    have T1 : MT σ0 _ μ0 _ := T.step Sw (fun c h0 _ _ _ => by rw [u_cf h0, u_cf h0]) (fun j hj => by rw [u_nj (by omega), u_nj (by omega)])
    obtain ⟨μ2, n1, pw⟩ := m_noise Sw (K.my T1.2.2.2) (O.sb sb) B1
    have n2 := T1.p26 pw
    have hns : ns (ups (ups σ 0 2 (min 99 (σ 0 2 + σ 9 j))) 0 1 (σ 0 1 + σ 9 j)) 0 = ns σ (σ 9 j) := ns_sh (s := σ 9 j) (t := 0) rfl rfl rfl rfl rfl rfl rfl rfl rfl rfl
    have l1 := ns_le B (σ 9 j)
    have S3 : MR σ (up2 (up2 μ2 0 2 (nI (σ 0 2))) 0 3 (nI (σ 0 1))) := by
      have h := MR_week (v := σ 0 1) (MR_wear (v := σ 0 2) n2.1)
      rw [ups_back] at h
      exact h
    have T3 : MT σ0 σ μ0 _ := n2.step S3 (fun c h0 _ _ _ => by rw [u_cf h0, u_cf h0]) (fun j hj => by rw [u_nj (by omega), u_nj (by omega)])
    have X3 : MX σ (up2 (up2 μ2 0 2 (nI (σ 0 2))) 0 3 (nI (σ 0 1))) := by
      have g : MY μ (up2 (up2 μ2 0 2 (nI (σ 0 2))) 0 3 (nI (σ 0 1))) := by
        exact ⟨fun c hc => by rw [u_cf (by omega), u_cf (by omega), pw c (by omega), u_cf (by omega), u_cf (by omega)], fun i hi => by rw [u_nj (by omega), u_nj (by omega), pw 0 (by omega), u_nj (by omega), u_nj (by omega)]⟩
      exact X.my g
    have z1' : μ2 35 j = nI (σ 8 j) := by
      have := X3.2.1.2 j (by omega)
      rw [u_nc (by omega), u_nc (by omega)] at this
      exact this.1
    have eml : F_M_least (nI (σ 0 2 + σ 9 j)) 99 = some (nI (min 99 (σ 0 2 + σ 9 j))) := m_least (y := 99) (by omega) (by omega)
    have e3 : up2 μ 0 2 (nI (min 99 (σ 0 2 + σ 9 j))) 0 3 = nI (σ 0 1) := by rw [u_nj (by omega)]; exact T.1.2.1
    have z2' : up2 μ 0 2 (nI (min 99 (σ 0 2 + σ 9 j))) 36 j = nI (σ 9 j) := by rw [u_nc (by omega)]; exact z2
    rw [L_M_isHeard_15, X.2.1.1, ite_le (by omega) (by omega), if_neg (by omega), if_neg one_ne, rdI_nI (by omega) (by omega), Option.bind_some, z2, T.1.2.2.1, nI_add, eml, Option.bind_some]
    rw [lt_e, rdI_nI (by omega) (by omega), Option.bind_some, lt_e, z2', e3, nI_add, n1, Option.bind_some]
    simp only []
    rw [rdI_nI (by omega) (by omega), Option.bind_some, jn_e, z1', hns, ite_eq (by omega) (by omega)]
    simp only [lt_e]
    show ∃ μ1, _ = k (b2i (decide (ns σ (σ 9 j) = σ 8 j) && isHf σ d (j + 1))) μ1 ∧ _
    by_cases c : ns σ (σ 9 j) = σ 8 j
    · rw [if_pos c, decide_eq_true c, Bool.true_and]
      exact ih (j + 1) (by omega) N1 (by omega) _ _ (nI_1 j) rfl _ T3 X3
    · rw [if_neg c, decide_eq_false c, Bool.false_and]
      obtain ⟨N2, rfl⟩ : ∃ N, N1 = N + 1 := ⟨N1 - 1, by omega⟩
      rw [L_M_isHeard_15, if_pos rfl, ite_self]
      exact ⟨_, rfl, T3⟩
theorem m_hrd {rs : Rsp} {σ0 σ : Sg} {μ0 μ : Mm} (T : MT σ0 σ μ0 μ) (X : MX σ μ) (K : MK rs μ0) (O : MO rs σ) (B : BW σ) (hw : σ 0 1 ≤ 19900) (C : BX σ) : ∃ μ1, F_M_isHeard μ = some (b2i (hrd σ), μ1) ∧ MT σ0 σ μ0 μ1 := by
  have h7 := C.1
  obtain ⟨μ1, e, T1⟩ := mhrdL K O B hw C (fun (x20 : Int32) (μ21 : Mm) => (rZ x20).bind fun r_ => some (r_, μ21)) (σ 7 0) 0 (by omega) fu (fu_gt (by omega)) 0 1 rfl rfl μ T X
  unfold F_M_isHeard
  rw [T.1.2.2.1, T.1.2.1, e, rZ_b, Option.bind_some]
  exact ⟨μ1, rfl, T1⟩
theorem whereXL {σ : Sg} {μ0 : Mm} (S : SR 40 σ μ0) (X : SX 40 σ μ0) (B : BW σ) (C : BX σ) {p : Nat} (hp : p < 6) (k : Int32 → Mm → Option (Int32 × Mm)) : ∀ d j, j + d = 6 → ∀ n, d < n → ∀ x s3, x = nI j → s3 = nI (pm (fun e => hrd (sits σ p e)) j) → ∀ μ, Off 60 75 μ0 μ → ∃ μ1, L_BT_where_17 (nI p) k n s3 x μ = k (nI (pm (fun e => hrd (sits σ p e)) 6)) μ1 ∧ Off 60 75 μ0 μ1 := by
  intro d
  induction d with
  | zero =>
    intro j hj n hn x s3 hx h3 μ ho
    obtain ⟨N1, rfl⟩ : ∃ N, n = N + 1 := ⟨n - 1, by omega⟩
    have e : j = 6 := by omega
    subst e
    subst hx h3
    rw [L_BT_where_17, if_pos (by decide)]
    exact ⟨μ, rfl, ho⟩
  | succ d ih =>
    intro j hj n hn x s3 hx h3 μ ho
    obtain ⟨N1, rfl⟩ : ∃ N, n = N + 1 := ⟨n - 1, by omega⟩
    subst hx h3
    obtain ⟨μ1, a1, a2⟩ := XT.start S X C ho
    obtain ⟨μ2, b1, b2⟩ := a2.sits B hp (e := j) (by omega)
    have lt := pm_lt (fun e => hrd (sits σ p e)) j
    have st : pm (fun e => hrd (sits σ p e)) (j + 1) = pm (fun e => hrd (sits σ p e)) j + if hrd (sits σ p j) then 2 ^ j else 0 := rfl
    rw [L_BT_where_17, q6, ite_le (by omega) (by omega), if_neg (by omega), a1, Option.bind_some, b1, Option.bind_some, x_hrd b2.1 b2.2.1 (BW_sits B (by omega)) (C.sb SB.sits) rfl, Option.bind_some, jn_e, ite_b0]
    by_cases c : hrd (sits σ p j) = true
    · rw [if_pos c, lt_e, or_bit j (by omega) _ lt]
      rw [if_pos c] at st
      exact ih (j + 1) (by omega) N1 (by omega) _ _ (nI_1 j) (by rw [st]) μ2 b2.2.2
    · rw [if_neg c]
      rw [if_neg c] at st
      exact ih (j + 1) (by omega) N1 (by omega) _ _ (nI_1 j) (by rw [st]; rfl) μ2 b2.2.2
theorem whereML {rs : Rsp} {σ : Sg} {μ0 : Mm} (X : MX σ μ0) (K : MK rs μ0) (O : MO rs σ) (B : BW σ) (hw : σ 0 1 ≤ 19900) (C : BX σ) {p : Nat} (hp : p < 6) (k : Int32 → Mm → Option (Int32 × Mm)) : ∀ d j, j + d = 6 → ∀ n, d < n → ∀ x s3, x = nI j → s3 = nI (pm (fun e => hrd (sits σ p e)) j) → ∀ μ, RS σ μ0 μ → ∃ μ1, L_M_where_14 (nI p) k n s3 x μ = k (nI (pm (fun e => hrd (sits σ p e)) 6)) μ1 ∧ RS σ μ0 μ1 := by
  intro d
  induction d with
  | zero =>
    intro j hj n hn x s3 hx h3 μ R
    obtain ⟨N1, rfl⟩ : ∃ N, n = N + 1 := ⟨n - 1, by omega⟩
    have e : j = 6 := by omega
    subst e
    subst hx h3
    rw [L_M_where_14, if_pos (by decide)]
    exact ⟨μ, rfl, R⟩
  | succ d ih =>
    intro j hj n hn x s3 hx h3 μ R
    obtain ⟨N1, rfl⟩ : ∃ N, n = N + 1 := ⟨n - 1, by omega⟩
    subst hx h3
    obtain ⟨R1, R2, R3⟩ := R
    obtain ⟨μ1, a1, a2⟩ := MT.save R1
    obtain ⟨μ2, b1, b2⟩ := a2.sits B hp (e := j) (by omega)
    obtain ⟨μ3, c1, c2⟩ := m_hrd b2 (((X.my R3).my b2.2.2.2).sb SB.sits) (K.my R3) (O.sb SB.sits) (BW_sits B (by omega)) hw (C.sb SB.sits)
    obtain ⟨μ4, d1, d2, d3, d4⟩ := c2.back SB.sits
    have lt := pm_lt (fun e => hrd (sits σ p e)) j
    have l6 : 2 ^ j ≤ 2 ^ 6 := Nat.pow_le_pow_right (by omega) (by omega)
    have st : pm (fun e => hrd (sits σ p e)) (j + 1) = pm (fun e => hrd (sits σ p e)) j + if hrd (sits σ p j) then 2 ^ j else 0 := rfl
    rw [L_M_where_14, q6, ite_le (by omega) (by omega), if_neg (by omega), a1, Option.bind_some, b1, Option.bind_some, c1, Option.bind_some]
    simp only []
    rw [jn_e, ite_b0, d1]
    by_cases c : hrd (sits σ p j) = true
    · rw [if_pos c]
      simp only [Option.bind_some]
      rw [or_bit j (by omega) _ lt]
      rw [if_pos c] at st
      exact ih (j + 1) (by omega) N1 (by omega) _ _ (nI_1 j) (by rw [st]) μ4 ⟨d2, d3, R3.tr d4⟩
    · rw [if_neg c]
      simp only [Option.bind_some]
      rw [or_0 _ (by omega)]
      rw [if_neg c] at st
      exact ih (j + 1) (by omega) N1 (by omega) _ _ (nI_1 j) (by rw [st]; rfl) μ4 ⟨d2, d3, R3.tr d4⟩
def cnf (σ : Sg) (Q p : Nat) : Nat := (decide (ns (awset σ p true) 0 ≤ Q)).toNat
theorem oddsXL {σ : Sg} {μ0 : Mm} (S : SR 40 σ μ0) (X : SX 40 σ μ0) (B : BW σ) (C : BX σ) {Q : Nat} (hQ : Q ≤ 999) (a : Int32) (k : Int32 → Mm → Option (Int64 × Mm)) : ∀ d j, j + d = σ 0 0 → ∀ n, d < n → ∀ x s3, x = nI j → s3 = nI (sm (cnf σ Q) j) → ∀ μ, Off 60 75 μ0 μ → ∃ μ1, L_BT_odds_20 (nI Q) a k n s3 x μ = k (nI (sm (cnf σ Q) (σ 0 0))) μ1 ∧ Off 60 75 μ0 μ1 := by
  have h66 := B.1
  intro d
  induction d with
  | zero =>
    intro j hj n hn x s3 hx h3 μ ho
    obtain ⟨N1, rfl⟩ : ∃ N, n = N + 1 := ⟨n - 1, by omega⟩
    have e : j = σ 0 0 := by omega
    subst e
    subst hx h3
    rw [L_BT_odds_20, ho 40 (by omega), S.1, ite_le (by omega) (by omega), if_pos (by omega)]
    exact ⟨μ, rfl, ho⟩
  | succ d ih =>
    intro j hj n hn x s3 hx h3 μ ho
    obtain ⟨N1, rfl⟩ : ∃ N, n = N + 1 := ⟨n - 1, by omega⟩
    subst hx h3
    obtain ⟨μ2, b1, b2⟩ := x_without S X B C (p := j) (by omega) ho
    have B1 := BW_awset B (p := j) (by omega) (c := true)
    have l1 := ns_le B1 0
    have st : sm (cnf σ Q) (j + 1) = sm (cnf σ Q) j + (decide (ns (awset σ j true) 0 ≤ Q)).toNat := rfl
    rw [L_BT_odds_20, ho 40 (by omega), S.1, ite_le (by omega) (by omega), if_neg (by omega), b1, Option.bind_some, b2.noise B1, Option.bind_some, jn_e, ite_lt (by omega) (by omega)]
    by_cases c : Q < ns (awset σ j true) 0
    · rw [if_pos c]
      rw [decide_eq_false (by omega)] at st
      exact ih (j + 1) (by omega) N1 (by omega) _ _ (nI_1 j) (by rw [st]; rfl) μ2 b2.2.2
    · rw [if_neg c]
      rw [decide_eq_true (by omega)] at st
      exact ih (j + 1) (by omega) N1 (by omega) _ _ (nI_1 j) (by rw [st]; exact nI_1 _) μ2 b2.2.2
theorem oddsML {rs : Rsp} {σ : Sg} {μ0 : Mm} (S : MR σ μ0) (K : MK rs μ0) (O : MO rs σ) (B : BW σ) {Q : Nat} (hQ : Q ≤ 999) (a : Int32) (k : Int32 → Mm → Option (Int64 × Mm)) : ∀ d j, j + d = σ 0 0 → ∀ n, d < n → ∀ x s3, x = nI j → s3 = nI (sm (cnf σ Q) j) → ∀ μ, P26 μ0 μ → ∃ μ1, L_M_odds_34 (nI Q) a k n s3 x μ = k (nI (sm (cnf σ Q) (σ 0 0))) μ1 ∧ P26 μ0 μ1 := by
  have h66 := B.1
  intro d
  induction d with
  | zero =>
    intro j hj n hn x s3 hx h3 μ ho
    obtain ⟨N1, rfl⟩ : ∃ N, n = N + 1 := ⟨n - 1, by omega⟩
    have e : j = σ 0 0 := by omega
    subst e
    subst hx h3
    rw [L_M_odds_34, ho 0 (by omega), S.1, ite_le (by omega) (by omega), if_pos (by omega)]
    exact ⟨μ, rfl, ho⟩
  | succ d ih =>
    intro j hj n hn x s3 hx h3 μ ho
    obtain ⟨N1, rfl⟩ : ∃ N, n = N + 1 := ⟨n - 1, by omega⟩
    subst hx h3
    obtain ⟨μ2, b1, b2⟩ := m_without (S.p26 ho) (K.p26 ho) O B (p := j) (by omega)
    have l1 := ns_le (BW_awset B (p := j) (by omega) (c := true)) 0
    have st : sm (cnf σ Q) (j + 1) = sm (cnf σ Q) j + (decide (ns (awset σ j true) 0 ≤ Q)).toNat := rfl
    rw [L_M_odds_34, ho 0 (by omega), S.1, ite_le (by omega) (by omega), if_neg (by omega), b1, Option.bind_some]
    simp only []
    rw [jn_e, ite_lt (by omega) (by omega)]
    by_cases c : Q < ns (awset σ j true) 0
    · rw [if_pos c]
      rw [decide_eq_false (by omega)] at st
      exact ih (j + 1) (by omega) N1 (by omega) _ _ (nI_1 j) (by rw [st, q0, nI_add]; rfl) μ2 (ho.tr b2)
    · rw [if_neg c]
      rw [decide_eq_true (by omega)] at st
      exact ih (j + 1) (by omega) N1 (by omega) _ _ (nI_1 j) (by rw [st]; exact nI_1 _) μ2 (ho.tr b2)
theorem part_tab : ∀ N, N < 6 → ∀ c, c ≤ 60 → F_BT_partOf (nI c) (nI (N + 1)) 0 = F_M_lowest (nI c) (nI (N + 1)) 0 ∧ F_BT_partOf (nI c) (nI (N + 1)) 1 = F_M_lowest (nI c) (nI (N + 1)) 1 ∧ (F_M_lowest (nI c) (nI (N + 1)) 0).isSome = true ∧ (F_M_lowest (nI c) (nI (N + 1)) 1).isSome = true := by decide +kernel
theorem part_c {N c : Nat} (hN : N ≤ 6) (hc : c ≤ 60) (a : Int32) : (F_M_in a 0 1 = some 0 ∧ F_BT_partOf (nI c) (nI N) a = some (-9223372036854775808)) ∨ (F_M_in a 0 1 = some 1 ∧ ((N = 0 ∧ F_BT_partOf (nI c) (nI N) a = some (-9223372036854775808)) ∨ (0 < N ∧ ∃ r, F_BT_partOf (nI c) (nI N) a = some r ∧ F_M_lowest (nI c) (nI N) a = some r))) := by
  rcases in_lit (lo := 0) (hi := 1) (by omega) (by omega) a 0 1 rfl rfl with ⟨k, _, hk1, e1, e⟩ | e
  · right
    refine ⟨e, ?_⟩
    by_cases h0 : N = 0
    · left
      refine ⟨h0, ?_⟩
      unfold F_BT_partOf
      rw [h0, if_pos (by decide)]
    · right
      refine ⟨by omega, ?_⟩
      obtain ⟨M, rfl⟩ : ∃ M, N = M + 1 := ⟨N - 1, by omega⟩
      obtain ⟨t1, t2, t3, t4⟩ := part_tab M (by omega) c hc
      rcases (show k = 0 ∨ k = 1 by omega) with rfl | rfl
      · rw [e1]
        obtain ⟨r, hr⟩ := Option.isSome_iff_exists.mp t3
        exact ⟨r, t1.trans hr, hr⟩
      · rw [e1]
        obtain ⟨r, hr⟩ := Option.isSome_iff_exists.mp t4
        exact ⟨r, t2.trans hr, hr⟩
  · left
    refine ⟨e, ?_⟩
    unfold F_BT_partOf
    rw [within_in, e, Option.bind_some, if_pos rfl, ite_self]
section CMD
variable {μ μ' : Mm} {ν ν' : Ml}
theorem st_where (I : Inv μ ν μ' ν') (a : Int32) : ∃ r μ1 μ1', F_BT_where a μ = some (r, μ1) ∧ F_M_where a μ' = some (r, μ1') ∧ Inv μ1 ν μ1' ν' := by
  obtain ⟨n, rsf, L, tx, σ, τ, im, h1, h2, hs, h8, h9, h10, h11, h12⟩ := id I
  obtain ⟨h3, h4, h5, h6, h7⟩ := id hs
  have K : MK (rsH rsf (σ 16 0)) μ' := Inv_MK h1 h7.2.2.2.1 h6.1
  have B := h7.1
  have h66 := B.1
  unfold F_BT_where F_M_where
  rcases pup_c h3 h5 B a with ⟨p, hp, rfl, e1, e2⟩ | ⟨e1, e2⟩
  · obtain ⟨μ1, x1, x2⟩ := whereXL h3 h4 B h7.2.1 (p := p) (by omega) (fun (x16 : Int32) (μ17 : Mm) => some (x16, μ17)) 6 0 (by omega) fu (fu_gt (by omega)) 0 0 rfl rfl μ Off.rf
    obtain ⟨μ2, m1, m2⟩ := whereML h6 K h7.2.2.1 B (by have := h7.2.2.2.2.2.2; omega) h7.2.1 (p := p) (by omega) (fun (x18 : Int32) (μ19 : Mm) => some (x18, μ19)) 6 0 (by omega) fu (fu_gt (by omega)) 0 0 rfl rfl μ' ⟨h5, h12, MY.rf⟩
    rw [e1, e2, Option.bind_some, Option.bind_some, if_neg one_ne, if_neg one_ne, x1, m1]
    exact ⟨_, _, _, rfl, rfl, Inv.ask h1 h2 hs h8 h9 h10 h11 h12 x2 m2.2.2 m2.1 m2.2.1⟩
  · rw [e1, e2, Option.bind_some, Option.bind_some, if_pos rfl, if_pos rfl]
    exact ⟨_, _, _, rfl, rfl, I⟩
theorem st_odds (I : Inv μ ν μ' ν') (a b : Int32) : ∃ r μ1 μ1', F_BT_odds a b μ = some (r, μ1) ∧ F_M_odds a b μ' = some (r, μ1') ∧ Inv μ1 ν μ1' ν' := by
  obtain ⟨n, rsf, L, tx, σ, τ, im, h1, h2, hs, h8, h9, h10, h11, h12⟩ := id I
  obtain ⟨h3, h4, h5, h6, h7⟩ := id hs
  have K : MK (rsH rsf (σ 16 0)) μ' := Inv_MK h1 h7.2.2.2.1 h6.1
  have B := h7.1
  have h66 := B.1
  unfold F_BT_odds F_M_odds
  rcases noise_c a with ⟨Q, hQ, rfl, e1, e2⟩ | ⟨e1, e2⟩
  · obtain ⟨μ1, x1, x2⟩ := oddsXL h3 h4 B h7.2.1 hQ b (fun (x14 : Int32) (μ15 : Mm) => (F_BT_partOf x14 (μ15 40 1) b).bind fun v16 => some (v16, μ15)) (σ 0 0) 0 (by omega) fu (fu_gt (by omega)) 0 0 rfl rfl μ Off.rf
    have hc : sm (cnf σ Q) (σ 0 0) ≤ 60 := by
      have := sm_part (f := cnf σ Q) (B := 1) (fun i => by unfold cnf; exact Bool.toNat_le _) h66
      omega
    have e40 : μ1 40 1 = nI (σ 0 0) := by rw [x2 40 (by omega)]; exact h3.1
    rw [e1, e2, Option.bind_some, Option.bind_some, if_neg one_ne, if_neg one_ne, x1, e40, h5.1]
    rcases part_c h66 hc b with ⟨p1, p2⟩ | ⟨p1, ⟨p0, p2⟩ | ⟨p0, r, p2, p3⟩⟩
    · rw [p1, p2, Option.bind_some, Option.bind_some, if_pos rfl]
      exact ⟨_, _, _, rfl, rfl, Inv.ask h1 h2 hs h8 h9 h10 h11 h12 x2 MY.rf h5 h12⟩
    · rw [p1, p2, Option.bind_some, Option.bind_some, if_neg one_ne, q0, ite_eq (by omega) (by omega), if_pos p0]
      exact ⟨_, _, _, rfl, rfl, Inv.ask h1 h2 hs h8 h9 h10 h11 h12 x2 MY.rf h5 h12⟩
    · obtain ⟨μ2, m1, m2⟩ := oddsML h5 K h7.2.2.1 B hQ b (fun (x15 : Int32) (μ16 : Mm) => (F_M_lowest x15 (μ16 0 0) b).bind fun v17 => some (v17, μ16)) (σ 0 0) 0 (by omega) fu (fu_gt (by omega)) 0 0 rfl rfl μ' P26.rf
      have e00 : μ2 0 0 = nI (σ 0 0) := by rw [m2 0 (by omega)]; exact h5.1
      have c0 : ¬ nI (σ 0 0) = 0 := fun q => by
        have := (nI_eq (a := σ 0 0) (b := 0) (by omega) (by omega)).mp q
        omega
      rw [p1, p2, Option.bind_some, Option.bind_some, if_neg one_ne, if_neg c0, m1, e00, p3, Option.bind_some]
      exact ⟨_, _, _, rfl, rfl, Inv.ask h1 h2 hs h8 h9 h10 h11 h12 x2 (MY.p26 m2) (h5.p26 m2) (by rw [m2 0 (by omega)]; exact h12)⟩
  · rw [e1, e2, Option.bind_some, Option.bind_some, if_pos rfl, if_pos rfl]
    exact ⟨_, _, _, rfl, rfl, I⟩
theorem st_mean (I : Inv μ ν μ' ν') (a : Int32) : ∃ r μ1', F_BT_mean a μ = some r ∧ F_M_mean a μ' = some (r, μ1') ∧ Inv μ ν μ1' ν' := by
  obtain ⟨n, rsf, L, tx, σ, τ, im, h1, h2, hs, h8, h9, h10, h11, h12⟩ := id I
  obtain ⟨h3, h4, h5, h6, h7⟩ := id hs
  have K : MK (rsH rsf (σ 16 0)) μ' := Inv_MK h1 h7.2.2.2.1 h6.1
  have B := h7.1
  have h66 := B.1
  have l1 := ns_le B 0
  have xn : F_Seat_noise 40 0 μ = some (nI (ns σ 0)) := x_noise h3 B (t := 0) (by omega)
  obtain ⟨μ1, m1, m2⟩ := m_allLearn h5 K h7.2.2.1 B
  have hc : lns σ (ns σ 0) ≤ 60 := by
    have := sm_part (f := fun p => ln σ p (ns σ 0)) (B := 10) (fun i => ln_le σ i _) h66
    unfold lns
    omega
  have e00 : μ1 0 0 = nI (σ 0 0) := by rw [m2 0 (by omega)]; exact h5.1
  unfold F_BT_mean F_M_mean
  rw [xn, Option.bind_some, x_lns h3 B (by omega), Option.bind_some, h3.1, h5.1]
  rcases part_c h66 hc a with ⟨p1, p2⟩ | ⟨p1, ⟨p0, p2⟩ | ⟨p0, r, p2, p3⟩⟩
  · rw [p1, p2, Option.bind_some, Option.bind_some, if_pos rfl]
    exact ⟨_, _, rfl, rfl, I⟩
  · rw [p1, p2, Option.bind_some, Option.bind_some, if_neg one_ne, q0, ite_le (by omega) (by omega), if_pos (by omega)]
    exact ⟨_, _, rfl, rfl, I⟩
  · have c0 : ¬ nI (σ 0 0) ≤ 0 := fun q => by
      have := (nI_leI (a := σ 0 0) (b := 0) (by omega) (by omega)).mp q
      omega
    rw [p1, p2, Option.bind_some, Option.bind_some, if_neg one_ne, if_neg c0, m1, Option.bind_some]
    simp only []
    rw [e00, p3, Option.bind_some]
    exact ⟨_, _, rfl, rfl, I.j XJ.rf (MJ.p26 m2)⟩
end CMD
