/-! told, of, taken, trace, looked, judge -/
theorem nI_s (a b : Nat) : nI (a + b) - nI b = nI a := by
  rw [← nI_add, Int32.add_sub_cancel]
theorem w10 (a : Int32) : (∃ k, k ≤ 5 ∧ a = nI (k + 10) ∧ a - 10 = nI k ∧ F_M_in a 10 15 = some 1) ∨ F_M_in a 10 15 = some 0 := by
  rcases in_lit (lo := 10) (hi := 15) (by omega) (by omega) a 10 15 rfl rfl with ⟨k, h1, h2, e, f⟩ | f
  · obtain ⟨m, rfl⟩ : ∃ m, k = m + 10 := ⟨k - 10, by omega⟩
    exact Or.inl ⟨m, by omega, e, by rw [e]; exact nI_s m 10, f⟩
  · exact Or.inr f
theorem inZ_c {hi : Nat} (hh : hi < 2147483648) (a h : Int32) (e : h = nI hi) : (∃ k, k ≤ hi ∧ a = nI k ∧ F_BT_within a 0 h = some 1 ∧ ((F_M_in a 0 h).bind fun v1 => (rZ v1).bind fun r_ => some r_) = some 1) ∨ (F_BT_within a 0 h = some 0 ∧ ((F_M_in a 0 h).bind fun v1 => (rZ v1).bind fun r_ => some r_) = some 0) := by
  rcases in_lit (lo := 0) (hi := hi) (by omega) hh a 0 h rfl e with ⟨k, _, h2, e1, f⟩ | f
  · exact Or.inl ⟨k, h2, e1, f, by rw [f]; rfl⟩
  · exact Or.inr ⟨f, by rw [f]; rfl⟩
theorem weeks_c (a : Int32) : (∃ k, k ≤ 60 ∧ a = nI k ∧ F_BT_within a 0 60 = some 1 ∧ F_M_isWeeks a = some 1) ∨ (F_BT_within a 0 60 = some 0 ∧ F_M_isWeeks a = some 0) := inZ_c (by omega) a 60 rfl
theorem noise_c (a : Int32) : (∃ k, k ≤ 999 ∧ a = nI k ∧ F_BT_within a 0 999 = some 1 ∧ F_M_isNoise a = some 1) ∨ (F_BT_within a 0 999 = some 0 ∧ F_M_isNoise a = some 0) := inZ_c (by omega) a 999 rfl
theorem tape_c (a : Int32) : (∃ k, k ≤ 5 ∧ a = nI k ∧ F_BT_isTape a = some 1 ∧ F_M_isTape a = some 1) ∨ (F_BT_isTape a = some 0 ∧ F_M_isTape a = some 0) := by
  unfold F_BT_isTape F_M_isTape
  rw [within_in]
  rcases inZ_c (hi := 5) (by omega) a 5 rfl with ⟨k, h2, e1, f, g⟩ | ⟨f, g⟩
  · exact Or.inl ⟨k, h2, e1, g, g⟩
  · exact Or.inr ⟨g, g⟩
theorem whI_M {σ : Sg} {d : Nat} (h : σ 0 0 ≤ 6) : (if 0 ≤ whI (wh σ d) then some (whI (wh σ d)) else some (-5)) = some (whM (wh σ d)) := by
  cases e : wh σ d with
  | none => rfl
  | some q =>
    have := (wh_some e).1
    show (if 0 ≤ nI q then some (nI q) else some (-5)) = some (nI q)
    rw [if_pos (nI_pos' (by omega))]
section CMD
variable {μ μ' : Mm} {ν ν' : Ml}
theorem st_told (I : Inv μ ν μ' ν') (a : Int32) : ∃ r μ1', F_BT_told a μ = some r ∧ F_M_told a μ' = some (r, μ1') ∧ Inv μ ν μ1' ν' := by
  obtain ⟨n, rsf, L, tx, σ, τ, im, h1, h2, ⟨h3, h4, h5, h6, h7⟩, h8, h9, h10, h11, h12⟩ := id I
  have K : MK (rsH rsf (σ 16 0)) μ' := Inv_MK h1 h7.2.2.2.1 h6.1
  have O := h7.2.2.1
  have B := h7.1
  obtain ⟨kw, kc, _⟩ := K μ' rfl (fun _ _ _ => rfl)
  unfold F_BT_told F_M_told
  rw [within_in]
  rcases w10 a with ⟨k, hk, rfl, e1, e⟩ | e
  · rw [e, Option.bind_some, Option.bind_some, if_neg one_ne, if_neg one_ne, e1, x_wh h3 B hk, m_wh h5 B hk, Option.bind_some, Option.bind_some]
    exact ⟨_, μ', whI_M B.1, rfl, I⟩
  · rw [e, Option.bind_some, Option.bind_some, if_pos rfl, if_pos rfl]
    by_cases c : a = 0
    · rw [if_pos c, if_pos c]
      exact ⟨nI (σ 0 1), μ', by rw [h3.2.1], by rw [h5.2.1], I⟩
    rw [if_neg c, if_neg c]
    by_cases c : a = 1
    · rw [if_pos c, if_pos c]
      exact ⟨nI (σ 0 2), μ', by rw [h3.2.2.1], by rw [h5.2.2.1], I⟩
    rw [if_neg c, if_neg c]
    by_cases c : a = 2
    · rw [if_pos c, if_pos c, kw, Option.bind_some]
      exact ⟨nI (σ 0 4), μ', by rw [h3.2.2.2.2.1], by rw [O.1], I⟩
    rw [if_neg c, if_neg c]
    by_cases c : a = 3
    · rw [if_pos c, if_pos c, kc, Option.bind_some]
      exact ⟨nI (σ 0 5), μ', by rw [h3.2.2.2.2.2.1], by rw [O.2.1], I⟩
    rw [if_neg c, if_neg c]
    by_cases c : a = 4
    · obtain ⟨μ1, e1, p1⟩ := m_noise h5 K O B
      rw [if_pos c, if_pos c, e1, Option.bind_some, q0, x_noise h3 B (t := 0) (by omega), Option.bind_some]
      exact ⟨_, _, rfl, rfl, I.j XJ.rf (MJ.p26 p1)⟩
    rw [if_neg c, if_neg c]
    by_cases c : a = 5
    · rw [if_pos c, if_pos c, x_kns h3 B, m_kns h5 B, Option.bind_some, Option.bind_some]
      exact ⟨_, _, rfl, rfl, I⟩
    rw [if_neg c, if_neg c]
    by_cases c : a = 6
    · obtain ⟨μ1, e1, p1⟩ := m_allLearn h5 K O B
      have := ns_le B 0
      rw [if_pos c, if_pos c, e1, Option.bind_some, q0, x_noise h3 B (t := 0) (by omega), Option.bind_some, x_lns h3 B (by omega), Option.bind_some]
      exact ⟨_, _, rfl, rfl, I.j XJ.rf (MJ.p26 p1)⟩
    rw [if_neg c, if_neg c]
    exact ⟨_, _, rfl, rfl, I⟩
theorem st_of (I : Inv μ ν μ' ν') (b a : Int32) : ∃ r μ1', F_BT_of b a μ = some r ∧ F_M_of b a μ' = some (r, μ1') ∧ Inv μ ν μ1' ν' := by
  obtain ⟨n, rsf, L, tx, σ, τ, im, h1, h2, ⟨h3, h4, h5, h6, h7⟩, h8, h9, h10, h11, h12⟩ := id I
  have K : MK (rsH rsf (σ 16 0)) μ' := Inv_MK h1 h7.2.2.2.1 h6.1
  have O := h7.2.2.1
  have B := h7.1
  have h66 := B.1
  unfold F_BT_of F_M_of
  rcases pup_c h3 h5 B b with ⟨p, hp, rfl, e1, e2⟩ | ⟨e1, e2⟩
  · rw [e1, e2, Option.bind_some, Option.bind_some, if_neg one_ne, if_neg one_ne, within_in]
    rcases w10 a with ⟨k, hk, rfl, e1, e⟩ | e
    · rw [e, Option.bind_some, Option.bind_some, if_neg one_ne, if_neg one_ne, e1]
      obtain ⟨_, _, km⟩ := K μ' rfl (fun _ _ _ => rfl)
      obtain ⟨μ1, e2, p1⟩ := km p k (σ 1 p) (σ 2 p) (by omega) (by omega) (B.2.2.2.2.2.2.1 p) (B.2.2.2.2.2.2.2.1 p) (h5.2.2.2.2.1 p (by omega)) (h5.2.2.2.2.2.1 p (by omega))
      have ei : nI p * 6 + nI (k + 10) - 10 = nI (p * 6 + k) := by
        rw [q6, pk_mul, nI_add, ← Nat.add_assoc]
        exact nI_s _ 10
      have e6 : μ 46 (p * 6 + k) = nI (σ 6 (p * 6 + k)) := h3.2.2.2.2.2.2.2.2.2.2.2.2 _ (by omega)
      rw [e2, Option.bind_some, ei, rdI_nI (by omega) (by omega), Option.bind_some, e6, O.2.2 p k hp (by omega)]
      exact ⟨_, _, rfl, rfl, I.j XJ.rf (MJ.p26 p1)⟩
    · rw [e, Option.bind_some, Option.bind_some, if_pos rfl, if_pos rfl]
      by_cases c : a = 0
      · rw [if_pos c, if_pos c, rdI_nI (by omega) (by omega), rdI_nI (by omega) (by omega), Option.bind_some, Option.bind_some]
        exact ⟨nI (σ 1 p), μ', by rw [show μ 41 p = _ from h3.2.2.2.2.2.2.2.1 p (by omega)], by rw [h5.2.2.2.2.1 p (by omega)], I⟩
      rw [if_neg c, if_neg c]
      by_cases c : a = 1
      · rw [if_pos c, if_pos c, rdI_nI (by omega) (by omega), rdI_nI (by omega) (by omega), Option.bind_some, Option.bind_some]
        exact ⟨nI (σ 2 p), μ', by rw [show μ 42 p = _ from h3.2.2.2.2.2.2.2.2.1 p (by omega)], by rw [h5.2.2.2.2.2.1 p (by omega)], I⟩
      rw [if_neg c, if_neg c]
      by_cases c : a = 2
      · rw [if_pos c, if_pos c, rdI_nI (by omega) (by omega), rdI_nI (by omega) (by omega), Option.bind_some, Option.bind_some]
        exact ⟨nI (σ 3 p), μ', by rw [show μ 43 p = _ from h3.2.2.2.2.2.2.2.2.2.1 p (by omega)], by rw [h5.2.2.2.2.2.2.1 p (by omega)], I⟩
      rw [if_neg c, if_neg c]
      by_cases c : a = 3
      · rw [if_pos c, if_pos c, rdI_nI (by omega) (by omega), rdI_nI (by omega) (by omega), Option.bind_some, Option.bind_some]
        exact ⟨nI (σ 4 p), μ', by rw [show μ 44 p = _ from h3.2.2.2.2.2.2.2.2.2.2.1 p (by omega)], by rw [h5.2.2.2.2.2.2.2.1 p (by omega)], I⟩
      rw [if_neg c, if_neg c]
      by_cases c : a = 4
      · rw [if_pos c, if_pos c, x_isAway h3 B (by omega), Option.bind_some, h5.2.2.2.1, bit_M _ B.2.2.2.1 _ (by omega), Option.bind_some, show (σ 0 3).testBit p = aw σ p from rfl, ite_b0, ite_b0]
        cases aw σ p
        · exact ⟨0, _, rfl, rfl, I⟩
        · exact ⟨1, _, rfl, rfl, I⟩
      rw [if_neg c, if_neg c]
      by_cases c : a = 5
      · rw [if_pos c, if_pos c, x_nb h3 B (by omega), m_bes h5 B (by omega), Option.bind_some, Option.bind_some]
        exact ⟨_, _, rfl, rfl, I⟩
      rw [if_neg c, if_neg c]
      by_cases c : a = 6
      · obtain ⟨μ1, e1, p1⟩ := m_voice h5 K O B hp
        rw [if_pos c, if_pos c, e1, Option.bind_some, q0, x_voice h3 B (t := 0) (by omega) (by omega), Option.bind_some]
        exact ⟨_, _, rfl, rfl, I.j XJ.rf (MJ.p26 p1)⟩
      rw [if_neg c, if_neg c]
      by_cases c : a = 7
      · obtain ⟨μ1, e1, p1⟩ := m_talk h5 K O B hp
        rw [if_pos c, if_pos c, e1, Option.bind_some, q0, x_talk h3 B (t := 0) (by omega) (by omega), Option.bind_some]
        exact ⟨_, _, rfl, rfl, I.j XJ.rf (MJ.p26 p1)⟩
      rw [if_neg c, if_neg c]
      by_cases c : a = 8
      · obtain ⟨μ1, e1, p1⟩ := m_noise h5 K O B
        have := ns_le B 0
        unfold F_M_learns
        rw [if_pos c, if_pos c, e1, Option.bind_some, q0, x_noise h3 B (t := 0) (by omega), Option.bind_some, x_learns h3 B (by omega) (by omega), Option.bind_some]
        simp only []
        rw [m_learnsBy (h5.p26 p1) (K.p26 p1) O B (by omega) (by omega), Option.bind_some, Option.bind_some]
        exact ⟨_, _, rfl, rfl, I.j XJ.rf (MJ.p26 p1)⟩
      rw [if_neg c, if_neg c]
      exact ⟨_, _, rfl, rfl, I⟩
  · rw [e1, e2, Option.bind_some, Option.bind_some, if_pos rfl, if_pos rfl]
    exact ⟨_, _, rfl, rfl, I⟩
theorem tk_tab : ∀ kd, kd ≤ 6 → ∀ k, k ≤ 6 → ((V_isUnder (24 + kd) (nI k)).bind fun v7 => (if v7 = 0 then some (-12) else some (nI kd))) = jn (α := Unit) (fun K8 => (if nI k = 0 then K8 () else (if nI kd = nI k then K8 () else jn (α := Unit) (fun K7 => (if nI k = 1 then (if nI kd = 4 then K8 () else K7 ()) else K7 ())) (fun (_ : Unit) => jn (α := Unit) (fun K6 => (if nI k = 2 then (if nI kd = 5 then K8 () else K6 ()) else K6 ())) (fun (_ : Unit) => (if nI k = 3 then (if nI kd = 6 then K8 () else some (-12)) else some (-12))))))) (fun (_ : Unit) => some (nI kd)) := by decide +kernel
theorem tk_some : ∀ kd, kd ≤ 6 → ∀ k, k ≤ 6 → ((V_isUnder (24 + kd) (nI k)).bind fun v7 => (if v7 = 0 then some (-12) else some (nI kd))).isSome = true := by decide +kernel
theorem st_taken (I : Inv μ ν μ' ν') (b a : Int32) : ∃ r, F_BT_taken b a μ = some r ∧ F_M_taken b a μ' = some r := by
  obtain ⟨n, rsf, L, tx, σ, τ, im, h1, h2, ⟨h3, h4, h5, h6, h7⟩, h8, h9, h10, h11, h12⟩ := id I
  have B := h7.1
  have h66 := B.1
  unfold F_BT_taken F_M_taken
  rw [within_in]
  rcases in_lit (lo := 0) (hi := 6) (by omega) (by omega) a 0 6 rfl rfl with ⟨k, _, hk, rfl, e⟩ | e
  · rw [e, Option.bind_some, Option.bind_some, if_neg one_ne, if_neg one_ne]
    rcases pup_c h3 h5 B b with ⟨p, hp, rfl, e1, e2⟩ | ⟨e1, e2⟩
    · have ek : μ 41 p = nI (σ 1 p) := h3.2.2.2.2.2.2.2.1 p (by omega)
      rw [e1, e2, Option.bind_some, Option.bind_some, if_neg one_ne, if_neg one_ne, x_kindOf h3 B (by omega), Option.bind_some, rdI_nI (by omega) (by omega), rdI_nI (by omega) (by omega), Option.bind_some, Option.bind_some, ek, h5.2.2.2.2.1 p (by omega), ← tk_tab _ (B.2.2.2.2.2.2.1 p) k hk]
      obtain ⟨r, hr⟩ := Option.isSome_iff_exists.mp (tk_some _ (B.2.2.2.2.2.2.1 p) k hk)
      exact ⟨r, hr, hr⟩
    · rw [e1, e2, Option.bind_some, Option.bind_some, if_pos rfl, if_pos rfl]
      exact ⟨_, rfl, rfl⟩
  · rw [e, Option.bind_some, Option.bind_some, if_pos rfl, if_pos rfl]
    exact ⟨_, rfl, rfl⟩
theorem st_trace (I : Inv μ ν μ' ν') (a : Int32) : ∃ r, F_BT_trace a μ = some r ∧ F_M_trace a μ' = some r := by
  obtain ⟨n, rsf, L, tx, σ, τ, im, h1, h2, hs, h8, ⟨k, hk, k1, k2, k3⟩, h10, h11, h12⟩ := id I
  unfold F_BT_trace F_M_trace
  rw [lt_e, k1, k2, within_in, q20, x_min (by omega) (by omega)]
  have hm : min k 20 ≤ 20 := Nat.min_le_right _ _
  rcases i32_cases a with h | ⟨i, hi, rfl⟩
  · have e1 : ∀ h', F_M_in a 0 h' = some 0 := fun h' => by
      unfold F_M_in
      rw [if_pos h]
    rw [e1, e1, Option.bind_some, Option.bind_some, if_pos rfl, if_pos rfl]
    exact ⟨_, rfl, rfl⟩
  · have hn : ¬ nI i < 0 := nn_not_neg hi
    have hs := pk_sub_toInt (a := min k 20) (b := 1) (by omega) (by omega)
    have hx : (nI (min k 20) - 1 < nI i) ↔ min k 20 ≤ i := by
      rw [Int32.lt_iff_toInt_lt, show (nI (min k 20) - 1) = nI (min k 20) - nI 1 from rfl, hs, nI_toInt (by omega)]
      omega
    have hy : (nI 19 < nI i) ↔ 20 ≤ i := by
      rw [nI_ltI (by omega) (by omega)]
      omega
    unfold F_M_in
    rw [if_neg hn, if_neg hn, show (19 : Int32) = nI 19 from rfl]
    by_cases c20 : 20 ≤ i
    · rw [if_pos (hy.mpr c20), if_pos (hx.mpr (by omega)), Option.bind_some, Option.bind_some, if_pos rfl, if_pos rfl]
      exact ⟨_, rfl, rfl⟩
    · rw [if_neg (fun q => c20 (hy.mp q)), Option.bind_some, if_neg one_ne, ite_le (by omega) (by omega)]
      by_cases ck : k ≤ i
      · rw [if_pos (hx.mpr (by omega)), if_pos ck, Option.bind_some, if_pos rfl]
        exact ⟨_, rfl, rfl⟩
      · rw [if_neg (fun q => ck (by have := hx.mp q; omega)), if_neg ck, Option.bind_some, if_neg one_ne, rdI_nI (by omega) (by omega), rdI_nI (by omega) (by omega), Option.bind_some, Option.bind_some, k3 i (by omega) (by omega)]
        exact ⟨_, rfl, rfl⟩
theorem lookedL {σ : Sg} (h3 : SR 40 σ μ) (h4 : SX 40 σ μ) (h5 : MR σ μ') (h6 : MX σ μ') (B : BW σ) (BX' : BX σ) : ∀ d j, j + d = σ 13 0 → ∀ n n', d < n → d < n' → ∀ x, x = nI j → ∃ r, L_BT_looked_2 μ (fun _ => some (-5)) n x = some r ∧ L_M_looked_2 μ' (fun _ => some (-5)) n' x = some r := by
  have hb := BX'.2.2.1
  have e1 : μ 53 2 = nI (σ 13 0) := h4.2.2.1.1
  have e2 : μ' 0 38 = nI (σ 13 0) := h6.2.2.2.1
  intro d
  induction d with
  | zero =>
    intro j hj n n' hn hn' x hx
    obtain ⟨N, rfl⟩ : ∃ N, n = N + 1 := ⟨n - 1, by omega⟩
    obtain ⟨N', rfl⟩ : ∃ N, n' = N + 1 := ⟨n' - 1, by omega⟩
    subst hx
    rw [L_BT_looked_2, L_M_looked_2, e1, e2, ite_le (by omega) (by omega), ite_le (by omega) (by omega), if_pos (by omega), if_pos (by omega)]
    exact ⟨_, rfl, rfl⟩
  | succ d ih =>
    intro j hj n n' hn hn' x hx
    obtain ⟨N, rfl⟩ : ∃ N, n = N + 1 := ⟨n - 1, by omega⟩
    obtain ⟨N', rfl⟩ : ∃ N, n' = N + 1 := ⟨n' - 1, by omega⟩
    subst hx
    obtain ⟨y1, y2⟩ := h4.2.2.1.2 j (by omega)
    obtain ⟨z1, z2⟩ := h6.2.2.2.2 j (by omega)
    have w1 := BX'.2.2.2.2.2.2.2.1 j
    have w2 := BX'.2.2.2.2.2.2.2.2.1 j
    have hr : rlen 53 = 8 := rfl
    rw [show 40 + 14 = 54 from rfl] at y1
    rw [show 40 + 15 = 55 from rfl] at y2
    have w3 := B.2.2.2.2.2.2.2.2.1 (σ 14 j)
    have yd : μ 43 (σ 14 j) = nI (σ 3 (σ 14 j)) := h3.2.2.2.2.2.2.2.2.2.1 _ (by omega)
    rw [L_BT_looked_2, L_M_looked_2, e1, e2, ite_le (by omega) (by omega), ite_le (by omega) (by omega), if_neg (by omega), if_neg (by omega), hr, rdI_nI (by omega) (by omega), rdI_nI (by omega) (by omega), rdI_nI (by omega) (by omega), rdI_nI (by omega) (by omega), y1, y2, z1, z2, Option.bind_some, Option.bind_some, rdI_nI (by omega) (by omega), rdI_nI (by omega) (by omega), Option.bind_some, Option.bind_some, Option.bind_some, Option.bind_some, yd, h5.2.2.2.2.2.2.1 _ (by omega), ite_eq (by omega) (by omega), ite_eq (by omega) (by omega)]
    by_cases c : σ 3 (σ 14 j) = σ 15 j
    · rw [if_pos c, if_pos c]
      exact ih (j + 1) (by omega) N N' (by omega) (by omega) _ (nI_1 j)
    · rw [if_neg c, if_neg c]
      exact ⟨_, rfl, rfl⟩
theorem st_looked (I : Inv μ ν μ' ν') : ∃ r, F_BT_looked μ = some r ∧ F_M_looked μ' = some r := by
  obtain ⟨n, rsf, L, tx, σ, τ, im, h1, h2, ⟨h3, h4, h5, h6, h7⟩, h8, h9, h10, h11, h12⟩ := id I
  have := h7.2.1.2.2.1
  exact lookedL h3 h4 h5 h6 h7.1 h7.2.1 (σ 13 0) 0 (by omega) fu fu (fu_gt (by omega)) (fu_gt (by omega)) 0 rfl
theorem judgeL {σ : Sg} (h3 : SR 40 σ μ) (h5 : MR σ μ') (B : BW σ) {t : Nat} (ht : t < 6) (T : TP μ ν μ' ν') (a : Int32) : ∀ d j, j + d = σ 0 0 → ∀ n n', d < n → d < n' → ∀ x, x = nI j → ∃ r, L_BT_judge_33 (nI t) a μ ν (fun _ => some (-5)) n x = some r ∧ L_M_judge_24 (nI t) a μ' ν' (fun _ => some (-5)) n' x = some r := by
  have hb := B.1
  obtain ⟨t1, t2, s, hs, s1, s2, s3, s4⟩ := T t ht
  intro d
  induction d with
  | zero =>
    intro j hj n n' hn hn' x hx
    obtain ⟨N, rfl⟩ : ∃ N, n = N + 1 := ⟨n - 1, by omega⟩
    obtain ⟨N', rfl⟩ : ∃ N, n' = N + 1 := ⟨n' - 1, by omega⟩
    subst hx
    rw [L_BT_judge_33, L_M_judge_24, h3.1, h5.1, ite_le (by omega) (by omega), ite_le (by omega) (by omega), if_pos (by omega), if_pos (by omega)]
    exact ⟨_, rfl, rfl⟩
  | succ d ih =>
    intro j hj n n' hn hn' x hx
    obtain ⟨N, rfl⟩ : ∃ N, n = N + 1 := ⟨n - 1, by omega⟩
    obtain ⟨N', rfl⟩ : ∃ N, n' = N + 1 := ⟨n' - 1, by omega⟩
    subst hx
    rw [L_BT_judge_33, L_M_judge_24, h3.1, h5.1, ite_le (by omega) (by omega), ite_le (by omega) (by omega), if_neg (show ¬ σ 0 0 ≤ j by omega), if_neg (show ¬ σ 0 0 ≤ j by omega), rdI_nI (g := μ' 65) (by omega) (by omega), Option.bind_some, t1]
    have hnI : ∀ k, k ≤ 4 → ¬ nI k < 0 := fun k hk => nn_not_neg (by omega)
    rcases i32_cases a with h | ⟨i, hi, rfl⟩
    · rw [if_pos h, if_pos h, ite_self]
      exact ⟨_, rfl, rfl⟩
    · have hn' : ¬ nI i < 0 := nn_not_neg hi
      rw [if_neg hn', if_neg hn', rdI_nI (g := μ 22) (by omega) (by omega), rdI_nI (g := μ' 66) (by omega) (by omega), Option.bind_some, Option.bind_some, s1, s2]
      have hx : (nI i < nI s - nI j) ↔ i + j < s := by
        have hq := pk_sub_toInt (a := s) (b := j) (by omega) (by omega)
        rw [Int32.lt_iff_toInt_lt, hq, nI_toInt (by omega)]
        omega
      have hy : (nI i ≤ nI s - nI j - 1) ↔ i + j < s := by
        have hq := pk_sub_toInt (a := s) (b := j + 1) (by omega) (by omega)
        rw [Int32.le_iff_toInt_le, q1, nI_sub2, hq, nI_toInt (by omega)]
        omega
      by_cases c : i + j < s
      · have hne : ¬ μ 21 t < 0 := by
          rcases t2 with e | ⟨k, hk, e⟩
          · have := s3 e
            omega
          · rw [e]
            exact hnI k hk
        have ei : nI 60 * nI t + nI i + nI j = nI (60 * t + (i + j)) := by
          rw [pk_mul, nI_add, nI_add, Nat.add_assoc]
        have ej : μ 43 j = nI (σ 3 j) := h3.2.2.2.2.2.2.2.2.2.1 j (by omega)
        rw [if_pos (hx.mpr c), if_neg hne, if_pos (hy.mpr c), rdR_nI (by omega) (by omega), Option.bind_some, nI_add, rdL_nI (by omega) (by omega), Option.bind_some, q60, ei, rdL_nI (by omega) (by omega), Option.bind_some, rdI_nI (by omega) (by omega), rdI_nI (by omega) (by omega), Option.bind_some, Option.bind_some, ej, h5.2.2.2.2.2.2.1 j (by omega), s4 _ c]
        by_cases c2 : lg_cmp (ν (15 + t) (i + j)) (Int32.toInt64 (nI (σ 3 j))) = 0
        · rw [if_pos c2, if_pos c2]
          exact ih (j + 1) (by omega) N N' (by omega) (by omega) _ (nI_1 j)
        · rw [if_neg c2, if_neg c2]
          exact ⟨_, rfl, rfl⟩
      · rw [if_neg (fun q => c (hx.mp q)), if_neg (fun q => c (hy.mp q)), ite_self]
        exact ⟨_, rfl, rfl⟩
theorem st_judge (I : Inv μ ν μ' ν') (b a : Int32) : ∃ r, F_BT_judge b a μ ν = some r ∧ F_M_judge b a μ' ν' = some r := by
  obtain ⟨n, rsf, L, tx, σ, τ, im, h1, h2, ⟨h3, h4, h5, h6, h7⟩, h8, h9, h10, h11, h12⟩ := id I
  unfold F_BT_judge F_M_judge
  rcases tape_c b with ⟨t, ht, rfl, e1, e2⟩ | ⟨e1, e2⟩
  · have h6' := h7.1.1
    obtain ⟨r, r1, r2⟩ := judgeL h3 h5 h7.1 (t := t) (by omega) h10 a (σ 0 0) 0 (by omega) fu fu (fu_gt (by omega)) (fu_gt (by omega)) 0 rfl
    obtain ⟨t1, t2, _⟩ := h10 t (by omega)
    rw [e1, e2, Option.bind_some, Option.bind_some, if_neg one_ne, if_neg one_ne, rdI_nI (by omega) (by omega), rdI_nI (by omega) (by omega), Option.bind_some, Option.bind_some, t1, jn_e, r1, r2]
    rcases t2 with e | ⟨k, hk, e⟩
    · rw [e, if_pos rfl, if_pos (by decide)]
      exact ⟨r, rfl, rfl⟩
    · rw [e, if_neg (nI_m1 (by omega)), Option.bind_some, q0, ite_eq (by omega) (by omega), ite_le (by omega) (by omega)]
      by_cases c : k = 0
      · rw [if_pos c, if_pos (by omega)]
        exact ⟨r, rfl, rfl⟩
      · rw [if_neg c, if_neg (by omega)]
        exact ⟨_, rfl, rfl⟩
  · rw [e1, e2, Option.bind_some, Option.bind_some, if_pos rfl, if_pos rfl]
    exact ⟨_, rfl, rfl⟩
end CMD
