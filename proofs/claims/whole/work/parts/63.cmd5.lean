/-! seat, best, where -/
/-- the first of the least -/
def am (f : Nat → Nat) : Nat → Nat
  | 0 => 0
  | k + 1 => if f k < f (am f k) then k else am f k
theorem am_lt (f : Nat → Nat) : ∀ k, am f k ≤ k
  | 0 => Nat.le_refl 0
  | k + 1 => by
    have := am_lt f k
    show (if f k < f (am f k) then k else am f k) ≤ k + 1
    split <;> omega
/-- at rest -/
def RS (σ : Sg) (μ0 μ : Mm) : Prop := MR σ μ ∧ μ 0 27 = 9999 ∧ MY μ0 μ
theorem m_nim {rs : Rsp} {σ : Sg} {μ0 μ : Mm} (R : RS σ μ0 μ) (K : MK rs μ0) (O : MO rs σ) (B : BW σ) {p e : Nat} (hp : p < 6) (he : e ≤ 5) : ∃ μ1, F_M_noiseIfMoved (nI p) (nI e) μ = some (nI (ns (moves σ p e) 0), μ1) ∧ RS σ μ0 μ1 := by
  obtain ⟨R1, R2, R3⟩ := R
  obtain ⟨μ1, a1, a2⟩ := MT.save R1
  obtain ⟨μ2, b1, b2⟩ := a2.moves B hp he
  obtain ⟨μ3, c1, c2⟩ := b2.noise (K.my R3) (O.sb SB.moves) (BW_moves B he)
  obtain ⟨μ4, d1, d2, d3, d4⟩ := c2.back SB.moves
  unfold F_M_noiseIfMoved
  rw [a1, Option.bind_some, b1, Option.bind_some, c1, Option.bind_some]
  simp only []
  rw [d1, Option.bind_some]
  exact ⟨μ4, rfl, d2, d3, R3.tr d4⟩
theorem seatXL {σ : Sg} {μ0 : Mm} (S : SR 40 σ μ0) (X : SX 40 σ μ0) (B : BW σ) (C : BX σ) {p : Nat} (hp : p < 6) (k : Int32 → Mm → Option (Int32 × Mm)) : ∀ d j, j + d = 6 → ∀ n, d < n → ∀ x s3 s4, x = nI j → s4 = nI (am (fun e => ns (moves σ p e) 0) j) → ((j = 0 ∧ s3 = 1000000000) ∨ (0 < j ∧ s3 = nI (ns (moves σ p (am (fun e => ns (moves σ p e) 0) j)) 0))) → ∀ μ, Off 60 75 μ0 μ → ∃ μ1, L_BT_seat_21 (nI p) k n s3 s4 x μ = k (nI (am (fun e => ns (moves σ p e) 0) 6)) μ1 ∧ Off 60 75 μ0 μ1 := by
  intro d
  induction d with
  | zero =>
    intro j hj n hn x s3 s4 hx h4 h3 μ ho
    obtain ⟨N1, rfl⟩ : ∃ N, n = N + 1 := ⟨n - 1, by omega⟩
    have e : j = 6 := by omega
    subst e
    subst hx h4
    rw [L_BT_seat_21, if_pos (by decide)]
    exact ⟨μ, rfl, ho⟩
  | succ d ih =>
    intro j hj n hn x s3 s4 hx h4 h3 μ ho
    obtain ⟨N1, rfl⟩ : ∃ N, n = N + 1 := ⟨n - 1, by omega⟩
    subst hx h4
    obtain ⟨μ1, a1, a2⟩ := XT.start S X C ho
    obtain ⟨μ2, b1, b2⟩ := a2.moves B hp (e := j) (by omega)
    have B1 := BW_moves B (p := p) (d := j) (by omega)
    have l1 := ns_le B1 0
    have l2 := ns_le (BW_moves B (p := p) (d := am (fun e => ns (moves σ p e) 0) j) (by have := am_lt (fun e => ns (moves σ p e) 0) j; omega)) 0
    rw [L_BT_seat_21, q6, ite_le (by omega) (by omega), if_neg (by omega), a1, Option.bind_some, b1, Option.bind_some, b2.noise B1, Option.bind_some, jn_e]
    have st : am (fun e => ns (moves σ p e) 0) (j + 1) = if ns (moves σ p j) 0 < ns (moves σ p (am (fun e => ns (moves σ p e) 0) j)) 0 then j else am (fun e => ns (moves σ p e) 0) j := rfl
    rcases h3 with ⟨j0, h3⟩ | ⟨j0, h3⟩
    · subst j0 h3
      have hn : ¬ (1000000000 : Int32) ≤ nI (ns (moves σ p 0) 0) := by
        have := nI_leI (a := 1000000000) (b := ns (moves σ p 0) 0) (by omega) (by omega)
        exact fun q => by have := this.mp q; omega
      have e1 : am (fun e => ns (moves σ p e) 0) 1 = 0 := by rw [st, show am (fun e => ns (moves σ p e) 0) 0 = 0 from rfl, if_neg (by omega)]
      rw [if_neg hn]
      exact ih 1 (by omega) N1 (by omega) _ _ _ rfl (by rw [e1]) (Or.inr ⟨by omega, by rw [e1]⟩) μ2 b2.2.2
    · subst h3
      rw [ite_le (by omega) (by omega)]
      by_cases c : ns (moves σ p (am (fun e => ns (moves σ p e) 0) j)) 0 ≤ ns (moves σ p j) 0
      · rw [if_pos c]
        rw [if_neg (by omega)] at st
        exact ih (j + 1) (by omega) N1 (by omega) _ _ _ (nI_1 j) (by rw [st]) (Or.inr ⟨by omega, by rw [st]⟩) μ2 b2.2.2
      · rw [if_neg c]
        rw [if_pos (by omega)] at st
        exact ih (j + 1) (by omega) N1 (by omega) _ _ _ (nI_1 j) (by rw [st]) (Or.inr ⟨by omega, by rw [st]⟩) μ2 b2.2.2
theorem seatML {rs : Rsp} {σ : Sg} {μ0 : Mm} (K : MK rs μ0) (O : MO rs σ) (B : BW σ) {p : Nat} (hp : p < 6) (k : Int32 → Mm → Option (Int32 × Mm)) : ∀ d j, j + d = 6 → 0 < j → ∀ n, d < n → ∀ x s3, x = nI j → s3 = nI (am (fun e => ns (moves σ p e) 0) j) → ∀ μ, RS σ μ0 μ → ∃ μ1, L_M_seat_14 (nI p) k n s3 x μ = k (nI (am (fun e => ns (moves σ p e) 0) 6)) μ1 ∧ RS σ μ0 μ1 := by
  intro d
  induction d with
  | zero =>
    intro j hj h0 n hn x s3 hx h3 μ R
    obtain ⟨N1, rfl⟩ : ∃ N, n = N + 1 := ⟨n - 1, by omega⟩
    have e : j = 6 := by omega
    subst e
    subst hx h3
    rw [L_M_seat_14, if_pos (by decide)]
    exact ⟨μ, rfl, R⟩
  | succ d ih =>
    intro j hj h0 n hn x s3 hx h3 μ R
    obtain ⟨N1, rfl⟩ : ∃ N, n = N + 1 := ⟨n - 1, by omega⟩
    subst hx h3
    have la := am_lt (fun e => ns (moves σ p e) 0) j
    obtain ⟨μ1, a1, a2⟩ := m_nim R K O B hp (e := j) (by omega)
    obtain ⟨μ2, b1, b2⟩ := m_nim a2 K O B hp (e := am (fun e => ns (moves σ p e) 0) j) (by omega)
    have l1 := ns_le (BW_moves B (p := p) (d := j) (by omega)) 0
    have l2 := ns_le (BW_moves B (p := p) (d := am (fun e => ns (moves σ p e) 0) j) (by omega)) 0
    have st : am (fun e => ns (moves σ p e) 0) (j + 1) = if ns (moves σ p j) 0 < ns (moves σ p (am (fun e => ns (moves σ p e) 0) j)) 0 then j else am (fun e => ns (moves σ p e) 0) j := rfl
    rw [L_M_seat_14, q6, ite_le (by omega) (by omega), if_neg (by omega), a1, Option.bind_some]
    simp only []
    rw [b1, Option.bind_some]
    simp only []
    rw [jn_e, ite_le (by omega) (by omega)]
    by_cases c : ns (moves σ p (am (fun e => ns (moves σ p e) 0) j)) 0 ≤ ns (moves σ p j) 0
    · rw [if_pos c]
      rw [if_neg (by omega)] at st
      exact ih (j + 1) (by omega) (by omega) N1 (by omega) _ _ (nI_1 j) (by rw [st]) μ2 b2
    · rw [if_neg c]
      rw [if_pos (by omega)] at st
      exact ih (j + 1) (by omega) (by omega) N1 (by omega) _ _ (nI_1 j) (by rw [st]) μ2 b2
/-! without one -/
theorem x_without {σ : Sg} {μ0 μ : Mm} (S : SR 40 σ μ0) (X : SX 40 σ μ0) (B : BW σ) (C : BX σ) {p : Nat} (hp : p < 6) (h : Off 60 75 μ0 μ) : ∃ μ1, F_BT_without (nI p) μ = some μ1 ∧ XT (awset σ p true) μ0 μ1 := by
  obtain ⟨μ1, a1, a2⟩ := XT.start S X C h
  obtain ⟨μ2, b1, b2⟩ := a2.goes B hp (a := 1) (c := true) (by decide)
  unfold F_BT_without
  rw [a1, Option.bind_some, b1, Option.bind_some]
  exact ⟨μ2, rfl, b2⟩
theorem m_without {rs : Rsp} {σ : Sg} {μ : Mm} (S : MR σ μ) (K : MK rs μ) (O : MO rs σ) (B : BW σ) {p : Nat} (hp : p < 6) : ∃ μ1, F_M_noiseWithout (nI p) μ = some (nI (ns (awset σ p true) 0), μ1) ∧ P26 μ μ1 := by
  obtain ⟨a1, a2⟩ := m_goes S B hp (a := 1) (c := true) (by decide)
  obtain ⟨μ2, b1, b2⟩ := m_noise a2 (MK_up K (by omega) (by omega)) (O.sb SB.awset) (BW_awset B hp)
  unfold F_M_noiseWithout
  rw [a1, Option.bind_some, b1, Option.bind_some]
  simp only []
  rw [lt_e]
  refine ⟨_, rfl, fun c hc => ?_⟩
  by_cases c0 : c = 0
  · subst c0
    funext j
    by_cases h : j = 1
    · rw [h, u_eq rfl rfl]
    · rw [u_nj h, b2 0 (by omega), u_nj h]
  · rw [u_cf c0, b2 c hc, u_cf c0]
def wI (f : Nat → Nat) (N : Nat) : Int32 := if N = 0 then -5 else nI (am f N)
theorem worstXL {σ : Sg} {μ0 : Mm} (S : SR 40 σ μ0) (X : SX 40 σ μ0) (B : BW σ) (C : BX σ) (k : Int32 → Mm → Option (Int32 × Mm)) : ∀ d j, j + d = σ 0 0 → ∀ n, d < n → ∀ x s1 s2, x = nI j → s2 = wI (fun p => ns (awset σ p true) 0) j → ((j = 0 ∧ s1 = 1000000000) ∨ (0 < j ∧ s1 = nI (ns (awset σ (am (fun p => ns (awset σ p true) 0) j) true) 0))) → ∀ μ, Off 60 75 μ0 μ → ∃ μ1, L_BT_worst_8 k n s1 s2 x μ = k (wI (fun p => ns (awset σ p true) 0) (σ 0 0)) μ1 ∧ Off 60 75 μ0 μ1 := by
  have h66 := B.1
  intro d
  induction d with
  | zero =>
    intro j hj n hn x s1 s2 hx h2 h1 μ ho
    obtain ⟨N1, rfl⟩ : ∃ N, n = N + 1 := ⟨n - 1, by omega⟩
    have e : j = σ 0 0 := by omega
    subst e
    subst hx h2
    rw [L_BT_worst_8, ho 40 (by omega), S.1, ite_le (by omega) (by omega), if_pos (by omega)]
    exact ⟨μ, rfl, ho⟩
  | succ d ih =>
    intro j hj n hn x s1 s2 hx h2 h1 μ ho
    obtain ⟨N1, rfl⟩ : ∃ N, n = N + 1 := ⟨n - 1, by omega⟩
    subst hx h2
    obtain ⟨μ2, b1, b2⟩ := x_without S X B C (p := j) (by omega) ho
    have B1 := BW_awset B (p := j) (by omega) (c := true)
    have la := am_lt (fun p => ns (awset σ p true) 0) j
    have l1 := ns_le B1 0
    have l2 := ns_le (BW_awset B (p := am (fun p => ns (awset σ p true) 0) j) (by omega) (c := true)) 0
    rw [L_BT_worst_8, ho 40 (by omega), S.1, ite_le (by omega) (by omega), if_neg (by omega), b1, Option.bind_some, b2.noise B1, Option.bind_some, jn_e]
    have st : am (fun p => ns (awset σ p true) 0) (j + 1) = if ns (awset σ j true) 0 < ns (awset σ (am (fun p => ns (awset σ p true) 0) j) true) 0 then j else am (fun p => ns (awset σ p true) 0) j := rfl
    have sw : wI (fun p => ns (awset σ p true) 0) (j + 1) = nI (am (fun p => ns (awset σ p true) 0) (j + 1)) := if_neg (by omega)
    rcases h1 with ⟨j0, h3⟩ | ⟨j0, h3⟩
    · subst j0 h3
      have hn : ¬ (1000000000 : Int32) ≤ nI (ns (awset σ 0 true) 0) := by
        have := nI_leI (a := 1000000000) (b := ns (awset σ 0 true) 0) (by omega) (by omega)
        exact fun q => by have := this.mp q; omega
      have e1 : am (fun p => ns (awset σ p true) 0) 1 = 0 := by rw [st, show am (fun p => ns (awset σ p true) 0) 0 = 0 from rfl, if_neg (by omega)]
      rw [if_neg hn]
      exact ih 1 (by omega) N1 (by omega) _ _ _ rfl (by rw [sw, e1]) (Or.inr ⟨by omega, by rw [e1]⟩) μ2 b2.2.2
    · subst h3
      have sj : wI (fun p => ns (awset σ p true) 0) j = nI (am (fun p => ns (awset σ p true) 0) j) := if_neg (by omega)
      rw [ite_le (by omega) (by omega)]
      by_cases c : ns (awset σ (am (fun p => ns (awset σ p true) 0) j) true) 0 ≤ ns (awset σ j true) 0
      · rw [if_pos c]
        rw [if_neg (by omega)] at st
        exact ih (j + 1) (by omega) N1 (by omega) _ _ _ (nI_1 j) (by rw [sw, st, sj]) (Or.inr ⟨by omega, by rw [st]⟩) μ2 b2.2.2
      · rw [if_neg c]
        rw [if_pos (by omega)] at st
        exact ih (j + 1) (by omega) N1 (by omega) _ _ _ (nI_1 j) (by rw [sw, st]) (Or.inr ⟨by omega, by rw [st]⟩) μ2 b2.2.2
theorem worstML {rs : Rsp} {σ : Sg} {μ0 : Mm} (S : MR σ μ0) (K : MK rs μ0) (O : MO rs σ) (B : BW σ) (k : Int32 → Mm → Option (Int32 × Mm)) : ∀ d j, j + d = σ 0 0 → ∀ n, d < n → ∀ x s1 s2, x = nI j → s1 = wI (fun p => ns (awset σ p true) 0) j → (j = 0 ∨ s2 = nI (ns (awset σ (am (fun p => ns (awset σ p true) 0) j) true) 0)) → ∀ μ, P26 μ0 μ → ∃ μ1, L_M_worstOf_7 k n s1 s2 x μ = k (wI (fun p => ns (awset σ p true) 0) (σ 0 0)) μ1 ∧ P26 μ0 μ1 := by
  have h66 := B.1
  intro d
  induction d with
  | zero =>
    intro j hj n hn x s1 s2 hx h2 h1 μ ho
    obtain ⟨N1, rfl⟩ : ∃ N, n = N + 1 := ⟨n - 1, by omega⟩
    have e : j = σ 0 0 := by omega
    subst e
    subst hx h2
    rw [L_M_worstOf_7, ho 0 (by omega), S.1, ite_le (by omega) (by omega), if_pos (by omega)]
    exact ⟨μ, rfl, ho⟩
  | succ d ih =>
    intro j hj n hn x s1 s2 hx h2 h1 μ ho
    obtain ⟨N1, rfl⟩ : ∃ N, n = N + 1 := ⟨n - 1, by omega⟩
    subst hx h2
    obtain ⟨μ2, b1, b2⟩ := m_without (S.p26 ho) (K.p26 ho) O B (p := j) (by omega)
    have la := am_lt (fun p => ns (awset σ p true) 0) j
    have l1 := ns_le (BW_awset B (p := j) (by omega) (c := true)) 0
    have l2 := ns_le (BW_awset B (p := am (fun p => ns (awset σ p true) 0) j) (by omega) (c := true)) 0
    have st : am (fun p => ns (awset σ p true) 0) (j + 1) = if ns (awset σ j true) 0 < ns (awset σ (am (fun p => ns (awset σ p true) 0) j) true) 0 then j else am (fun p => ns (awset σ p true) 0) j := rfl
    have sw : wI (fun p => ns (awset σ p true) 0) (j + 1) = nI (am (fun p => ns (awset σ p true) 0) (j + 1)) := if_neg (by omega)
    rw [L_M_worstOf_7, ho 0 (by omega), S.1, ite_le (by omega) (by omega), if_neg (by omega), b1, Option.bind_some]
    simp only []
    rw [jn_e, jn_e]
    by_cases j0 : j = 0
    · subst j0
      have e1 : am (fun p => ns (awset σ p true) 0) 1 = 0 := by rw [st, show am (fun p => ns (awset σ p true) 0) 0 = 0 from rfl, if_neg (by omega)]
      rw [show wI (fun p => ns (awset σ p true) 0) 0 = -5 from if_pos rfl, if_pos (by decide)]
      exact ih 1 (by omega) N1 (by omega) _ _ _ rfl (by rw [sw, e1]) (Or.inr (by rw [e1])) μ2 (ho.tr b2)
    · have sj : wI (fun p => ns (awset σ p true) 0) j = nI (am (fun p => ns (awset σ p true) 0) j) := if_neg j0
      rcases h1 with h1 | h1
      · exact absurd h1 j0
      · subst h1
        rw [sj, if_neg (nn_not_neg (by omega)), ite_lt (by omega) (by omega)]
        by_cases c : ns (awset σ j true) 0 < ns (awset σ (am (fun p => ns (awset σ p true) 0) j) true) 0
        · rw [if_pos c]
          rw [if_pos c] at st
          exact ih (j + 1) (by omega) N1 (by omega) _ _ _ (nI_1 j) (by rw [sw, st]) (Or.inr (by rw [st])) μ2 (ho.tr b2)
        · rw [if_neg c]
          rw [if_neg c] at st
          exact ih (j + 1) (by omega) N1 (by omega) _ _ _ (nI_1 j) (by rw [sw, st]) (Or.inr (by rw [st])) μ2 (ho.tr b2)
/-! who changes with whom -/
theorem swap_moves {σ : Sg} (D : DI σ) {a b : Nat} (ha : a < σ 0 0) (hb : b < σ 0 0) (hab : a ≠ b) : swap (ups σ 0 2 0) a b = moves σ a (σ 3 b) := by
  have e : wh σ (σ 3 b) = some b := by
    cases h : wh σ (σ 3 b) with
    | none => exact absurd rfl (wh_none h hb)
    | some o =>
      obtain ⟨h1, h2⟩ := wh_some h
      rw [D o b h1 hb h2]
  funext i j
  show (if i = 3 then swapF (ups σ 0 2 0) a b else ups σ 0 2 0 i) j = if i = 0 ∧ j = 2 then 0 else (if i = 3 then sitsF σ a (σ 3 b) else σ i) j
  by_cases h3 : i = 3
  · rw [if_pos h3, if_pos h3, if_neg (by omega)]
    unfold sitsF
    rw [e]
    show (if j = b then σ 3 a else if j = a then σ 3 b else σ 3 j) = if j = a then σ 3 b else if j = b then σ 3 a else σ 3 j
    by_cases c1 : j = b
    · rw [if_pos c1, if_neg (by omega), if_pos c1]
    · rw [if_neg c1, if_neg c1]
  · rw [if_neg h3, if_neg h3]
    rfl
theorem swap_swap {σ : Sg} {a b : Nat} : swap (swap σ a b) a b = σ := by
  funext i j
  show (if i = 3 then swapF (swap σ a b) a b else (if i = 3 then swapF σ a b else σ i)) j = σ i j
  by_cases h3 : i = 3
  · rw [if_pos h3, h3]
    show (if j = b then (if a = b then σ 3 a else if a = a then σ 3 b else σ 3 a) else if j = a then (if b = b then σ 3 a else if b = a then σ 3 b else σ 3 b) else (if j = b then σ 3 a else if j = a then σ 3 b else σ 3 j)) = σ 3 j
    by_cases c1 : j = b
    · rw [if_pos c1, c1]
      by_cases c2 : a = b
      · rw [if_pos c2, c2]
      · rw [if_neg c2, if_pos rfl]
    · rw [if_neg c1, if_neg c1]
      by_cases c2 : j = a
      · rw [if_pos c2, if_pos rfl, c2]
      · rw [if_neg c2, if_neg c2]
  · rw [if_neg h3, if_neg h3]
theorem chInner {rs : Rsp} {σ : Sg} {μ0 μ0' : Mm} (K : MK rs μ0') (O : MO rs σ) (B : BW σ) (D : DI σ) {a : Nat} (ha : a < σ 0 0) (k k' : Int32 → Int32 → Mm → Option (Int32 × Mm)) : ∀ d j, j + d = σ 0 0 → a < j → ∀ n n', d < n → d < n' → ∀ x, x = nI j → ∀ (l : Nat) (r : Int32) (μ μ' : Mm), l < 100000 → XT (ups σ 0 2 0) μ0 μ → RS σ μ0' μ' → ∃ l1 r1 μ1 μ1', L_BT_change_34 (nI a) k n (nI l) r x μ = k (nI l1) r1 μ1 ∧ L_M_changeOf_23 (nI a) k' n' r (nI l) x μ' = k' r1 (nI l1) μ1' ∧ l1 < 100000 ∧ XT (ups σ 0 2 0) μ0 μ1 ∧ RS σ μ0' μ1' := by
  have h66 := B.1
  intro d
  induction d with
  | zero =>
    intro j hj haj n n' hn hn' x hx l r μ μ' hl T R
    obtain ⟨N1, rfl⟩ : ∃ N, n = N + 1 := ⟨n - 1, by omega⟩
    obtain ⟨N1', rfl⟩ : ∃ N, n' = N + 1 := ⟨n' - 1, by omega⟩
    subst hx
    have e1 : μ 60 1 = nI (σ 0 0) := T.1.1
    rw [L_BT_change_34, L_M_changeOf_23, e1, R.1.1, ite_le (by omega) (by omega), ite_le (by omega) (by omega), if_pos (by omega), if_pos (by omega)]
    exact ⟨l, r, μ, μ', rfl, rfl, hl, T, R⟩
  | succ d ih =>
    intro j hj haj n n' hn hn' x hx l r μ μ' hl T R
    obtain ⟨N1, rfl⟩ : ∃ N, n = N + 1 := ⟨n - 1, by omega⟩
    obtain ⟨N1', rfl⟩ : ∃ N, n' = N + 1 := ⟨n' - 1, by omega⟩
    subst hx
    have e1 : μ 60 1 = nI (σ 0 0) := T.1.1
    have Bw : BW (ups σ 0 2 0) := BW_wear B (by omega)
    have B1 : BW (swap (ups σ 0 2 0) a j) := BW_swap Bw
    obtain ⟨μ1, a1, a2⟩ := T.swaps (a := a) (c := j) (by omega) (by omega)
    obtain ⟨μ2, b1, b2⟩ := a2.swaps (a := a) (c := j) (by omega) (by omega)
    rw [swap_swap] at b2
    have dj := B.2.2.2.2.2.2.2.2.1 j
    obtain ⟨μ3, c1, c2⟩ := m_nim R K O B (p := a) (e := σ 3 j) (by omega) dj
    have l1 := ns_le B1 0
    rw [L_BT_change_34, L_M_changeOf_23, e1, R.1.1, ite_le (by omega) (by omega), ite_le (by omega) (by omega), if_neg (show ¬ σ 0 0 ≤ j by omega), if_neg (show ¬ σ 0 0 ≤ j by omega), a1, Option.bind_some, a2.noise B1, Option.bind_some, b1, Option.bind_some, jn_e, rdI_nI (by omega) (by omega), Option.bind_some, R.1.2.2.2.2.2.2.1 j (by omega), c1, Option.bind_some]
    simp only []
    rw [jn_e, ← swap_moves D ha (b := j) (by omega) (by omega), ite_le (by omega) (by omega), ite_lt (by omega) (by omega)]
    by_cases c : l ≤ ns (swap (ups σ 0 2 0) a j) 0
    · rw [if_pos c, if_neg (by omega)]
      exact ih (j + 1) (by omega) (by omega) N1 N1' (by omega) (by omega) _ (nI_1 j) l r μ2 μ3 hl b2 c2
    · rw [if_neg c, if_pos (by omega)]
      exact ih (j + 1) (by omega) (by omega) N1 N1' (by omega) (by omega) _ (nI_1 j) _ _ μ2 μ3 (by omega) b2 c2
theorem chOuter {rs : Rsp} {σ : Sg} {μ0 μ0' : Mm} (K : MK rs μ0') (O : MO rs σ) (B : BW σ) (D : DI σ) (k k' : Int32 → Mm → Option (Int32 × Mm)) : ∀ d j, j + d = σ 0 0 → ∀ n n', d < n → d < n' → ∀ x, x = nI j → ∀ (l : Nat) (r : Int32) (μ μ' : Mm), l < 100000 → XT (ups σ 0 2 0) μ0 μ → RS σ μ0' μ' → ∃ r1 μ1 μ1', L_BT_change_18 k n (nI l) r x μ = k r1 μ1 ∧ L_M_changeOf_10 k' n' r (nI l) x μ' = k' r1 μ1' ∧ XT (ups σ 0 2 0) μ0 μ1 ∧ RS σ μ0' μ1' := by
  have h66 := B.1
  intro d
  induction d with
  | zero =>
    intro j hj n n' hn hn' x hx l r μ μ' hl T R
    obtain ⟨N1, rfl⟩ : ∃ N, n = N + 1 := ⟨n - 1, by omega⟩
    obtain ⟨N1', rfl⟩ : ∃ N, n' = N + 1 := ⟨n' - 1, by omega⟩
    subst hx
    have e1 : μ 60 1 = nI (σ 0 0) := T.1.1
    rw [L_BT_change_18, L_M_changeOf_10, e1, R.1.1, ite_le (by omega) (by omega), ite_le (by omega) (by omega), if_pos (by omega), if_pos (by omega)]
    exact ⟨r, μ, μ', rfl, rfl, T, R⟩
  | succ d ih =>
    intro j hj n n' hn hn' x hx l r μ μ' hl T R
    obtain ⟨N1, rfl⟩ : ∃ N, n = N + 1 := ⟨n - 1, by omega⟩
    obtain ⟨N1', rfl⟩ : ∃ N, n' = N + 1 := ⟨n' - 1, by omega⟩
    subst hx
    have e1 : μ 60 1 = nI (σ 0 0) := T.1.1
    obtain ⟨l1, r1, μ1, μ1', i1, i2, i3, i4, i5⟩ := chInner K O B D (a := j) (by omega) (fun (x23 : Int32) (x24 : Int32) (μ25 : Mm) => L_BT_change_18 k N1 x23 x24 (nI j + 1) μ25) (fun (x20 : Int32) (x21 : Int32) (μ22 : Mm) => L_M_changeOf_10 k' N1' x20 x21 (nI j + 1) μ22) d (j + 1) (by omega) (by omega) fu fu (fu_gt (by omega)) (fu_gt (by omega)) (nI j + 1) (nI_1 j) l r μ μ' hl T R
    obtain ⟨r2, μ2, μ2', f1, f2, f3, f4⟩ := ih (j + 1) (by omega) N1 N1' (by omega) (by omega) (nI j + 1) (nI_1 j) l1 r1 μ1 μ1' i3 i4 i5
    rw [L_BT_change_18, L_M_changeOf_10, e1, R.1.1, ite_le (by omega) (by omega), ite_le (by omega) (by omega), if_neg (show ¬ σ 0 0 ≤ j by omega), if_neg (show ¬ σ 0 0 ≤ j by omega)]
    exact ⟨r2, μ2, μ2', i1.trans f1, i2.trans f2, f3, f4⟩
section CMD
variable {μ μ' : Mm} {ν ν' : Ml}
theorem st_seat (I : Inv μ ν μ' ν') (a : Int32) : ∃ r μ1 μ1', F_BT_seat a μ = some (r, μ1) ∧ F_M_seat a μ' = some (r, μ1') ∧ Inv μ1 ν μ1' ν' := by
  obtain ⟨n, rsf, L, tx, σ, τ, im, h1, h2, hs, h8, h9, h10, h11, h12⟩ := id I
  obtain ⟨h3, h4, h5, h6, h7⟩ := id hs
  have K : MK (rsH rsf (σ 16 0)) μ' := Inv_MK h1 h7.2.2.2.1 h6.1
  have B := h7.1
  have h66 := B.1
  unfold F_BT_seat F_M_seat
  rcases pup_c h3 h5 B a with ⟨p, hp, rfl, e1, e2⟩ | ⟨e1, e2⟩
  · obtain ⟨μ1, x1, x2⟩ := seatXL h3 h4 B h7.2.1 (p := p) (by omega) (fun (x17 : Int32) (μ18 : Mm) => some (x17, μ18)) 6 0 (by omega) fu (fu_gt (by omega)) 0 1000000000 0 rfl rfl (Or.inl ⟨rfl, rfl⟩) μ Off.rf
    have e1' : am (fun e => ns (moves σ p e) 0) 1 = 0 := if_neg (Nat.lt_irrefl _)
    obtain ⟨μ2, m1, m2⟩ := seatML K h7.2.2.1 B (p := p) (by omega) (fun (x15 : Int32) (μ16 : Mm) => some (x15, μ16)) 5 1 (by omega) (by omega) fu (fu_gt (by omega)) 1 0 rfl (by rw [e1']; rfl) μ' ⟨h5, h12, MY.rf⟩
    rw [e1, e2, Option.bind_some, Option.bind_some, if_neg one_ne, if_neg one_ne, x1, m1]
    exact ⟨_, _, _, rfl, rfl, Inv.ask h1 h2 hs h8 h9 h10 h11 h12 x2 m2.2.2 m2.1 m2.2.1⟩
  · rw [e1, e2, Option.bind_some, Option.bind_some, if_pos rfl, if_pos rfl]
    exact ⟨_, _, _, rfl, rfl, I⟩
theorem st_best (I : Inv μ ν μ' ν') (a : Int32) : ∃ r μ1 μ1', F_BT_best a μ = some (r, μ1) ∧ F_M_best a μ' = some (r, μ1') ∧ Inv μ1 ν μ1' ν' := by
  obtain ⟨n, rsf, L, tx, σ, τ, im, h1, h2, hs, h8, h9, h10, h11, h12⟩ := id I
  obtain ⟨h3, h4, h5, h6, h7⟩ := id hs
  have K : MK (rsH rsf (σ 16 0)) μ' := Inv_MK h1 h7.2.2.2.1 h6.1
  have B := h7.1
  have h66 := B.1
  unfold F_BT_best F_M_best
  by_cases c0 : a = 0
  · unfold F_BT_change F_M_changeOf F_BT_plansFromNow
    obtain ⟨μ1, x1, x2⟩ := XT.start h3 h4 h7.2.1 (μ := μ) Off.rf
    obtain ⟨μ2, n1, n2⟩ := m_noise h5 K h7.2.2.1 B
    have l1 := ns_le B 0
    obtain ⟨r1, μ3, μ3', f1, f2, f3, f4⟩ := chOuter K h7.2.2.1 B h7.2.2.2.2.2.1 (fun (x26 : Int32) (μ27 : Mm) => some (x26, μ27)) (fun (x23 : Int32) (μ24 : Mm) => some (x23, μ24)) (σ 0 0) 0 (by omega) fu fu (fu_gt (by omega)) (fu_gt (by omega)) 0 rfl (ns σ 0) (-5) (up2 μ1 60 3 0) μ2 (by omega) x2.wear0 ⟨h5.p26 n2, by rw [n2 0 (by omega)]; exact h12, MY.p26 n2⟩
    have xn : F_Seat_noise 40 0 μ = some (nI (ns σ 0)) := x_noise h3 B (t := 0) (by omega)
    rw [if_pos c0, if_pos c0, xn, x1, n1, Option.bind_some, Option.bind_some, Option.bind_some, lt_e, Option.bind_some]
    simp only []
    rw [f1, f2, Option.bind_some, Option.bind_some]
    exact ⟨_, _, _, rfl, rfl, Inv.ask h1 h2 hs h8 h9 h10 h11 h12 f3.2.2 f4.2.2 f4.1 f4.2.1⟩
  · rw [if_neg c0, if_neg c0]
    by_cases c1 : a = 1
    · unfold F_BT_worst F_M_worstOf
      obtain ⟨μ1, x1, x2⟩ := worstXL h3 h4 B h7.2.1 (fun (x12 : Int32) (μ13 : Mm) => some (x12, μ13)) (σ 0 0) 0 (by omega) fu (fu_gt (by omega)) 0 1000000000 (-5) rfl rfl (Or.inl ⟨rfl, rfl⟩) μ Off.rf
      obtain ⟨μ2, m1, m2⟩ := worstML h5 K h7.2.2.1 B (fun (x12 : Int32) (μ13 : Mm) => some (x12, μ13)) (σ 0 0) 0 (by omega) fu (fu_gt (by omega)) 0 (-5) 0 rfl rfl (Or.inl rfl) μ' P26.rf
      rw [if_pos c1, if_pos c1, x1, m1, Option.bind_some, Option.bind_some]
      exact ⟨_, _, _, rfl, rfl, Inv.ask h1 h2 hs h8 h9 h10 h11 h12 x2 (MY.p26 m2) (h5.p26 m2) (by rw [m2 0 (by omega)]; exact h12)⟩
    · rw [if_neg c1, if_neg c1]
      exact ⟨_, _, _, rfl, rfl, I⟩
end CMD
