/-! acts, tapes -/
theorem Inv.g {μ μ' μ1 μ1' : Mm} {ν1 ν1' : Ml} {n L : Nat} {rsf : Nat → Rsp} {tx : Nat → Nat} {σ τ : Sg} {im : Bool} (h1 : RR n rsf μ μ') (h2 : TX n L tx μ μ') (h8 : IM n rsf im τ μ μ') (h11 : LT μ') (h12 : μ' 0 27 = 9999) (gx : ∀ c, c ≤ 10 → μ1 c = μ c) (gx2 : ∀ c, 80 ≤ c → c ≤ 95 → μ1 c = μ c) (gm : ∀ c, (14 ≤ c ∧ c ≤ 20) ∨ c = 25 ∨ (52 ≤ c ∧ c ≤ 62) → μ1' c = μ' c) (gm0 : ∀ j, j = 9 ∨ j = 11 ∨ j = 27 ∨ (43 ≤ j ∧ j ≤ 51) → μ1' 0 j = μ' 0 j) (s : SR 40 σ μ1 ∧ SX 40 σ μ1 ∧ MR σ μ1' ∧ MX σ μ1' ∧ GS n rsf σ) (tr : TR μ1 μ1') (tp : TP μ1 ν1 μ1' ν1') : Inv μ1 ν1 μ1' ν1' := by
  have hn := h1.1
  refine ⟨n, rsf, L, tx, σ, τ, im, ⟨h1.1, by rw [gx 1 (by omega)]; exact h1.2.1, (gm0 9 (by omega)).trans h1.2.2.1, fun i hi => ⟨(h1.2.2.2 i hi).1, (h1.2.2.2 i hi).2.1.mv (gx _ (by omega)) (by rw [gx 10 (by omega)]), (h1.2.2.2 i hi).2.2.mv (by rw [gm 15 (by omega)]) (fun c k a b _ _ => by rw [gm c (by omega)]) (fun k _ _ => by rw [gm 20 (by omega)])⟩⟩, ?_, s, ⟨by rw [gx 0 (by omega)]; exact h8.1, (gm0 43 (by omega)).trans h8.2.1, fun hi => ?_⟩, tr, tp, fun i hi => by rw [gm 25 (by omega)]; exact h11 i hi, (gm0 27 (by omega)).trans h12⟩
  · unfold TX
    rw [gx 10 (by omega), gx (3 + n) (by omega), gm0 11 (by omega), gm 14 (by omega)]
    exact h2
  · obtain ⟨a, b, c, d⟩ := h8.2.2 hi
    refine ⟨?_, ?_, ?_, d⟩
    · unfold SR
      rw [gx2 80 (by omega) (by omega), gx2 (80 + 1) (by omega) (by omega), gx2 (80 + 2) (by omega) (by omega), gx2 (80 + 3) (by omega) (by omega), gx2 (80 + 4) (by omega) (by omega), gx2 (80 + 5) (by omega) (by omega), gx2 (80 + 6) (by omega) (by omega)]
      exact a
    · exact b.keep (fun c h1 h2 => gx2 c (by omega) (by omega)) (by rw [gx2 80 (by omega) (by omega)])
    · unfold MI
      rw [gm0 44 (by omega), gm0 45 (by omega), gm0 46 (by omega), gm0 47 (by omega), gm0 48 (by omega), gm0 49 (by omega), gm0 50 (by omega), gm0 51 (by omega), gm 52 (by omega), gm 53 (by omega), gm 54 (by omega), gm 55 (by omega), gm 56 (by omega), gm 57 (by omega), gm 58 (by omega), gm 59 (by omega), gm 60 (by omega), gm 61 (by omega), gm 62 (by omega)]
      exact c
/-- now is the same on both sides -/
theorem now_same {n : Nat} {rsf : Nat → Rsp} {σ : Sg} {μ μ' μ1 μ1' : Mm} (s : SR 40 σ μ ∧ SX 40 σ μ ∧ MR σ μ' ∧ MX σ μ' ∧ GS n rsf σ) (gx : ∀ c, 40 ≤ c → c ≤ 55 → μ1 c = μ c) (gm : ∀ c, (4 ≤ c ∧ c ≤ 8) ∨ c = 35 ∨ c = 36 ∨ (39 ≤ c ∧ c ≤ 42) → μ1' c = μ' c) (gm0 : ∀ j, j ≤ 3 ∨ j = 10 ∨ j = 34 ∨ j = 37 ∨ j = 38 → μ1' 0 j = μ' 0 j) : SR 40 σ μ1 ∧ SX 40 σ μ1 ∧ MR σ μ1' ∧ MX σ μ1' ∧ GS n rsf σ := by
  refine ⟨s.1.keep (fun c h1 h2 => gx c (by omega) (by omega)), s.2.1.keep (fun c h1 h2 => gx c (by omega) (by omega)) (by rw [gx 40 (by omega) (by omega)]), ?_, ?_, s.2.2.2.2⟩
  · have := s.2.2.1
    unfold MR at this ⊢
    rw [gm0 0 (by omega), gm0 3 (by omega), gm0 2 (by omega), gm0 1 (by omega), gm 4 (by omega), gm 5 (by omega), gm 6 (by omega), gm 7 (by omega), gm 8 (by omega)]
    exact this
  · have := s.2.2.2.1
    unfold MX at this ⊢
    rw [gm0 10 (by omega), gm0 34 (by omega), gm0 37 (by omega), gm0 38 (by omega), gm 35 (by omega), gm 36 (by omega), gm 39 (by omega), gm 40 (by omega), gm 41 (by omega), gm 42 (by omega)]
    exact this
/-- while one acts -/
def AR (i v K : Nat) (μ0 μ0' μ μ' : Mm) : Prop := (∃ k, k ≤ K ∧ μ 11 1 = nI k ∧ μ' 0 63 = nI k ∧ ∀ j, j < k → j < 20 → μ 12 j = μ' 64 j) ∧ μ 11 2 = nI i ∧ μ 11 3 = nI v ∧ (∀ c, c ≠ 11 → c ≠ 12 → μ c = μ0 c) ∧ (∀ c, c ≠ 0 → c ≠ 64 → μ' c = μ0' c) ∧ ∀ j, j ≠ 63 → μ' 0 j = μ0' 0 j
theorem AR.mono {i v K K' : Nat} {μ0 μ0' μ μ' : Mm} (h : AR i v K μ0 μ0' μ μ') (hk : K ≤ K') : AR i v K' μ0 μ0' μ μ' := by
  obtain ⟨⟨k, a, b⟩, c⟩ := h
  exact ⟨⟨k, by omega, b⟩, c⟩
theorem a_body {i v K : Nat} {μ0 μ0' μ μ' : Mm} (A : AR i v K μ0 μ0' μ μ') (hK : K ≤ 29) (b : Int32) : ∃ μ1 μ1', F_Trace_begins b μ = some μ1 ∧ F_M_body b μ' = some μ1' ∧ AR i v (K + 1) μ0 μ0' μ1 μ1' := by
  obtain ⟨⟨k, hk, a1, a2, a3⟩, a4, a5, a6, a7, a8⟩ := A
  unfold F_Trace_begins F_M_body
  rw [jn_e, jn_e, a1, a2, q20, ite_le (by omega) (by omega), ite_le (by omega) (by omega)]
  by_cases c : 20 ≤ k
  · rw [if_pos c, if_pos c]
    simp only [lt_e]
    rw [a1, a2, nI_1]
    exact ⟨_, _, rfl, rfl, ⟨k + 1, by omega, u_eq rfl rfl, u_eq rfl rfl, fun j h1 h2 => by rw [u_nc (by omega), u_nc (by omega)]; exact a3 j (by omega) h2⟩, by rw [u_nj (by omega)]; exact a4, by rw [u_nj (by omega)]; exact a5, fun c h1 h2 => by rw [u_cf h1]; exact a6 c h1 h2, fun c h1 h2 => by rw [u_cf h1]; exact a7 c h1 h2, fun j h => by rw [u_nj h]; exact a8 j h⟩
  · rw [if_neg c, if_neg c, wrI_nI (by omega) (by omega), wrI_nI (by omega) (by omega), Option.bind_some, Option.bind_some]
    simp only [lt_e]
    rw [u_nc (by omega), u_nc (by omega), a1, a2, nI_1]
    refine ⟨_, _, rfl, rfl, ⟨k + 1, by omega, u_eq rfl rfl, u_eq rfl rfl, fun j h1 h2 => ?_⟩, ?_, ?_, fun c h1 h2 => ?_, fun c h1 h2 => ?_, fun j h => ?_⟩
    · simp (disch := omega) only [u_nc]
      by_cases e : j = k
      · rw [u_eq rfl e, u_eq rfl e]
      · rw [u_nj e, u_nj e]
        exact a3 j (by omega) h2
    · rw [u_nj (by omega), u_nc (by omega)]
      exact a4
    · rw [u_nj (by omega), u_nc (by omega)]
      exact a5
    · rw [u_cf h1, u_cf h2]
      exact a6 c h1 h2
    · rw [u_cf h1, u_cf h2]
      exact a7 c h1 h2
    · rw [u_nj h, u_nc (by omega)]
      exact a8 j h
section ACT
variable {i v K : Nat} {μ0 μ0' μ μ' : Mm}
theorem a_pwh (A : AR i v K μ0 μ0' μ μ') (hK : K ≤ 29) (b : Nat) (x : Int32) : ∃ r μ1 μ1', F_PK_whispers b x μ = some (r, μ1) ∧ F_M_pupilWhispers (nI i) x μ' = some (r, μ1') ∧ AR i v (K + 1) μ0 μ0' μ1 μ1' := by
  obtain ⟨μ1, μ1', b1, b2, b3⟩ := a_body A hK 10
  unfold F_PK_whispers F_M_pupilWhispers
  rw [b1, b2, Option.bind_some, Option.bind_some, b3.2.1]
  exact ⟨_, _, _, rfl, rfl, b3⟩
theorem a_wh (hi : i < 6) {kd : Nat} (hkd : kd ≤ 6) (e4 : μ0' 4 i = nI kd) (e5 : μ0' 5 i = nI v) (A : AR i v K μ0 μ0' μ μ') (hK : K ≤ 28) (x : Int32) : ∃ r μ1 μ1', V_whispers (24 + kd) x μ = some (r, μ1) ∧ F_M_whispersAct (nI i) x μ' = some (r, μ1') ∧ AR i v (K + 2) μ0 μ0' μ1 μ1' := by
  have g4 : μ' 4 i = nI kd := by rw [A.2.2.2.2.1 4 (by omega) (by omega)]; exact e4
  unfold F_M_whispersAct V_whispers
  rw [rdI_nI (by omega) (by omega), Option.bind_some, g4]
  rcases (show kd = 0 ∨ kd = 1 ∨ kd = 2 ∨ kd = 3 ∨ kd = 4 ∨ kd = 5 ∨ kd = 6 by omega) with rfl | rfl | rfl | rfl | rfl | rfl | rfl
  · obtain ⟨r, μ1, μ1', b1, b2, b3⟩ := a_pwh A (by omega) (24 + 0) x
    refine ⟨r, μ1, μ1', b1, ?_, b3.mono (by omega)⟩
    show (F_M_pupilWhispers (nI i) x μ').bind _ = _
    rw [b2, Option.bind_some]
  · obtain ⟨r, μ1, μ1', b1, b2, b3⟩ := a_pwh A (by omega) (24 + 1) x
    refine ⟨r, μ1, μ1', b1, ?_, b3.mono (by omega)⟩
    show (F_M_pupilWhispers (nI i) x μ').bind _ = _
    rw [b2, Option.bind_some]
  · obtain ⟨μ1, μ1', b1, b2, b3⟩ := a_body A (by omega) 30
    obtain ⟨r, μ2, μ2', c1, c2, c3⟩ := a_pwh b3 (by omega) (24 + 2) (x * 3)
    refine ⟨r, μ2, μ2', ?_, ?_, c3.mono (by omega)⟩
    · show F_Quiet_whispers _ _ _ = _
      unfold F_Quiet_whispers
      rw [b1, Option.bind_some, c1, Option.bind_some]
    · show (F_M_body 30 μ').bind _ = _
      rw [b2, Option.bind_some, c2, Option.bind_some]
  · obtain ⟨r, μ1, μ1', b1, b2, b3⟩ := a_pwh A (by omega) (24 + 3) x
    refine ⟨r, μ1, μ1', b1, ?_, b3.mono (by omega)⟩
    show (F_M_pupilWhispers (nI i) x μ').bind _ = _
    rw [b2, Option.bind_some]
  · obtain ⟨μ1, μ1', b1, b2, b3⟩ := a_body A (by omega) 50
    obtain ⟨r, μ2, μ2', c1, c2, c3⟩ := a_pwh b3 (by omega) (24 + 4) x
    refine ⟨-r, μ2, μ2', ?_, ?_, c3.mono (by omega)⟩
    · show F_Tom_whispers _ _ _ = _
      unfold F_Tom_whispers
      rw [b1, Option.bind_some, c1, Option.bind_some]
    · show (F_M_body 50 μ').bind _ = _
      rw [b2, Option.bind_some, c2, Option.bind_some]
  · obtain ⟨μ1, μ1', b1, b2, b3⟩ := a_body A (by omega) 30
    obtain ⟨r, μ2, μ2', c1, c2, c3⟩ := a_pwh b3 (by omega) (24 + 5) (x * 3)
    refine ⟨r, μ2, μ2', ?_, ?_, c3.mono (by omega)⟩
    · show F_Quiet_whispers _ _ _ = _
      unfold F_Quiet_whispers
      rw [b1, Option.bind_some, c1, Option.bind_some]
    · show (F_M_body 30 μ').bind _ = _
      rw [b2, Option.bind_some, c2, Option.bind_some]
  · obtain ⟨μ1, μ1', b1, b2, b3⟩ := a_body A (by omega) 71
    obtain ⟨r, μ2, μ2', c1, c2, c3⟩ := a_pwh b3 (by omega) (24 + 6) x
    have g5 : μ2' 5 i = nI v := by rw [c3.2.2.2.2.1 5 (by omega) (by omega)]; exact e5
    refine ⟨r ^^^ nI v, μ2, μ2', ?_, ?_, c3.mono (by omega)⟩
    · show F_Told_whispers _ _ _ = _
      unfold F_Told_whispers
      rw [b1, Option.bind_some, c1, Option.bind_some]
      simp only []
      rw [c3.2.2.1]
    · show (F_M_body 71 μ').bind _ = _
      rw [b2, Option.bind_some, c2, Option.bind_some]
      simp only []
      rw [rdI_nI (by omega) (by omega), Option.bind_some, g5]
theorem a_pch (hi : i < 6) {kd : Nat} (hkd : kd ≤ 6) (e4 : μ0' 4 i = nI kd) (e5 : μ0' 5 i = nI v) (A : AR i v K μ0 μ0' μ μ') (hK : K ≤ 27) (x : Int32) : ∃ r μ1 μ1', F_PK_chats (24 + kd) x μ = some (r, μ1) ∧ F_M_pupilChats (nI i) x μ' = some (r, μ1') ∧ AR i v (K + 3) μ0 μ0' μ1 μ1' := by
  obtain ⟨μ1, μ1', b1, b2, b3⟩ := a_body A (by omega) 11
  obtain ⟨r, μ2, μ2', c1, c2, c3⟩ := a_wh hi hkd e4 e5 b3 (by omega) x
  have g5 : μ2' 5 i = nI v := by rw [c3.2.2.2.2.1 5 (by omega) (by omega)]; exact e5
  unfold F_PK_chats F_M_pupilChats
  rw [b1, b2, Option.bind_some, Option.bind_some, c1, c2, Option.bind_some, Option.bind_some]
  simp only []
  rw [rdI_nI (by omega) (by omega), Option.bind_some, g5, c3.2.2.1]
  exact ⟨_, _, _, rfl, rfl, c3.mono (by omega)⟩
theorem a_tch (hi : i < 6) {kd : Nat} (hkd : kd ≤ 6) (e4 : μ0' 4 i = nI kd) (e5 : μ0' 5 i = nI v) (A : AR i v K μ0 μ0' μ μ') (hK : K ≤ 26) (x : Int32) : ∃ r μ1 μ1', F_Talk_chats (24 + kd) x μ = some (r, μ1) ∧ F_M_talkerChats (nI i) x μ' = some (r, μ1') ∧ AR i v (K + 4) μ0 μ0' μ1 μ1' := by
  obtain ⟨μ1, μ1', b1, b2, b3⟩ := a_body A (by omega) 20
  obtain ⟨r, μ2, μ2', c1, c2, c3⟩ := a_pch hi hkd e4 e5 b3 (by omega) x
  unfold F_Talk_chats F_M_talkerChats
  rw [b1, b2, Option.bind_some, Option.bind_some, c1, c2, Option.bind_some, Option.bind_some]
  exact ⟨_, _, _, rfl, rfl, c3.mono (by omega)⟩
theorem a_ch (hi : i < 6) {kd : Nat} (hkd : kd ≤ 6) (e4 : μ0' 4 i = nI kd) (e5 : μ0' 5 i = nI v) (A : AR i v K μ0 μ0' μ μ') (hK : K ≤ 25) (x : Int32) : ∃ r μ1 μ1', V_chats (24 + kd) x μ = some (r, μ1) ∧ F_M_chatsAct (nI i) x μ' = some (r, μ1') ∧ AR i v (K + 5) μ0 μ0' μ1 μ1' := by
  have g4 : μ' 4 i = nI kd := by rw [A.2.2.2.2.1 4 (by omega) (by omega)]; exact e4
  have g5 : μ' 5 i = nI v := by rw [A.2.2.2.2.1 5 (by omega) (by omega)]; exact e5
  unfold F_M_chatsAct
  rw [rdI_nI (by omega) (by omega), Option.bind_some, g4]
  by_cases c1 : kd = 1
  · subst c1
    obtain ⟨r, μ1, μ1', b1, b2, b3⟩ := a_tch hi hkd e4 e5 A (by omega) x
    refine ⟨r, μ1, μ1', b1, ?_, b3.mono (by omega)⟩
    show (F_M_talkerChats (nI i) x μ').bind _ = _
    rw [b2, Option.bind_some]
  by_cases c4 : kd = 4
  · subst c4
    obtain ⟨μ1, μ1', b1, b2, b3⟩ := a_body A (by omega) 51
    obtain ⟨r, μ2, μ2', c1, c2, c3⟩ := a_tch hi hkd e4 e5 b3 (by omega) (x + 1)
    refine ⟨r, μ2, μ2', ?_, ?_, c3.mono (by omega)⟩
    · show F_Tom_chats _ _ _ = _
      unfold F_Tom_chats
      rw [b1, Option.bind_some, c1, Option.bind_some]
    · show (F_M_body 51 μ').bind _ = _
      rw [b2, Option.bind_some, c2, Option.bind_some]
  by_cases c6 : kd = 6
  · subst c6
    obtain ⟨μ1, μ1', b1, b2, b3⟩ := a_body A (by omega) 70
    obtain ⟨r, μ2, μ2', c1, c2, c3⟩ := a_pch hi hkd e4 e5 b3 (by omega) x
    obtain ⟨r', μ3, μ3', d1, d2, d3⟩ := a_pwh c3 (by omega) (24 + 6) 2
    refine ⟨r + r', μ3, μ3', ?_, ?_, d3.mono (by omega)⟩
    · show F_Told_chats _ _ _ = _
      unfold F_Told_chats
      rw [b1, Option.bind_some, c1, Option.bind_some]
      simp only []
      rw [d1, Option.bind_some]
    · show (F_M_body 70 μ').bind _ = _
      rw [b2, Option.bind_some, c2, Option.bind_some]
      simp only []
      rw [d2, Option.bind_some]
  obtain ⟨r, μ1, μ1', b1, b2, b3⟩ := a_pch hi hkd e4 e5 A (by omega) x
  refine ⟨r, μ1, μ1', ?_, ?_, b3.mono (by omega)⟩
  · unfold V_chats
    rcases (show kd = 0 ∨ kd = 2 ∨ kd = 3 ∨ kd = 5 by omega) with rfl | rfl | rfl | rfl <;> exact b1
  · rcases (show kd = 0 ∨ kd = 2 ∨ kd = 3 ∨ kd = 5 by omega) with rfl | rfl | rfl | rfl
    all_goals
      show (F_M_pupilChats (nI i) x μ').bind _ = _
      rw [b2, Option.bind_some]
theorem a_ptl (hi : i < 6) {kd : Nat} (hkd : kd ≤ 6) (e4 : μ0' 4 i = nI kd) (e5 : μ0' 5 i = nI v) (A : AR i v K μ0 μ0' μ μ') (hK : K ≤ 24) (x : Int32) : ∃ r μ1 μ1', F_PK_tells (24 + kd) x μ = some (r, μ1) ∧ F_M_pupilTells (nI i) x μ' = some (r, μ1') ∧ AR i v (K + 6) μ0 μ0' μ1 μ1' := by
  obtain ⟨μ1, μ1', b1, b2, b3⟩ := a_body A (by omega) 12
  obtain ⟨r, μ2, μ2', c1, c2, c3⟩ := a_ch hi hkd e4 e5 b3 (by omega) x
  unfold F_PK_tells F_M_pupilTells
  rw [b1, b2, Option.bind_some, Option.bind_some, c1, c2, Option.bind_some, Option.bind_some]
  exact ⟨_, _, _, rfl, rfl, c3.mono (by omega)⟩
theorem a_tl (hi : i < 6) {kd : Nat} (hkd : kd ≤ 6) (e4 : μ0' 4 i = nI kd) (e5 : μ0' 5 i = nI v) (A : AR i v K μ0 μ0' μ μ') (hK : K ≤ 18) (x : Int32) : ∃ r μ1 μ1', V_tells (24 + kd) x μ = some (r, μ1) ∧ F_M_tellsAct (nI i) x μ' = some (r, μ1') ∧ AR i v (K + 12) μ0 μ0' μ1 μ1' := by
  have g4 : μ' 4 i = nI kd := by rw [A.2.2.2.2.1 4 (by omega) (by omega)]; exact e4
  unfold F_M_tellsAct
  rw [rdI_nI (by omega) (by omega), Option.bind_some, g4]
  by_cases c36 : kd = 3 ∨ kd = 6
  · obtain ⟨μ1, μ1', b1, b2, b3⟩ := a_body A (by omega) 40
    obtain ⟨r, μ2, μ2', c1, c2, c3⟩ := a_ptl hi hkd e4 e5 b3 (by omega) x
    obtain ⟨r', μ3, μ3', d1, d2, d3⟩ := a_ch hi hkd e4 e5 c3 (by omega) 1
    refine ⟨r + r', μ3, μ3', ?_, ?_, d3.mono (by omega)⟩
    · have e : V_tells (24 + kd) x μ = F_Short_tells (24 + kd) x μ := by rcases c36 with rfl | rfl <;> rfl
      rw [e]
      unfold F_Short_tells
      rw [b1, Option.bind_some, c1, Option.bind_some]
      simp only []
      rw [d1, Option.bind_some]
    · rcases c36 with rfl | rfl
      all_goals
        show (F_M_body 40 μ').bind _ = _
        rw [b2, Option.bind_some, c2, Option.bind_some]
        simp only []
        rw [d2, Option.bind_some]
  by_cases c5 : kd = 5
  · subst c5
    obtain ⟨μ1, μ1', b1, b2, b3⟩ := a_body A (by omega) 60
    obtain ⟨r, μ2, μ2', c1, c2, c3⟩ := a_ptl hi hkd e4 e5 b3 (by omega) (x - nI i)
    refine ⟨r, μ2, μ2', ?_, ?_, c3.mono (by omega)⟩
    · show F_Cork_tells _ _ _ = _
      unfold F_Cork_tells
      rw [b1, Option.bind_some, b3.2.1, c1, Option.bind_some]
    · show (F_M_body 60 μ').bind _ = _
      rw [b2, Option.bind_some, c2, Option.bind_some]
  obtain ⟨r, μ1, μ1', b1, b2, b3⟩ := a_ptl hi hkd e4 e5 A (by omega) x
  refine ⟨r, μ1, μ1', ?_, ?_, b3.mono (by omega)⟩
  · unfold V_tells
    rcases (show kd = 0 ∨ kd = 1 ∨ kd = 2 ∨ kd = 4 by omega) with rfl | rfl | rfl | rfl <;> exact b1
  · rcases (show kd = 0 ∨ kd = 1 ∨ kd = 2 ∨ kd = 4 by omega) with rfl | rfl | rfl | rfl
    all_goals
      show (F_M_pupilTells (nI i) x μ').bind _ = _
      rw [b2, Option.bind_some]
end ACT
theorem TP.keep {μ μ' μ1 μ1' : Mm} {ν ν' : Ml} (h : TP μ ν μ' ν') (g1 : μ1 21 = μ 21) (g2 : μ1 22 = μ 22) (g3 : μ1' 65 = μ' 65) (g4 : μ1' 66 = μ' 66) : TP μ1 ν μ1' ν' := by
  unfold TP
  rw [g1, g2, g3, g4]
  exact h
section CMD
variable {μ μ' : Mm} {ν ν' : Ml}
theorem st_act (I : Inv μ ν μ' ν') (a b x : Int32) : ∃ r μ1 μ1', F_BT_act a b x μ = some (r, μ1) ∧ F_M_act a b x μ' = some (r, μ1') ∧ Inv μ1 ν μ1' ν' := by
  obtain ⟨n, rsf, L, tx, σ, τ, im, h1, h2, hs, h8, h9, h10, h11, h12⟩ := id I
  have h66 := hs.2.2.2.2.1.1
  -- what is left behind
  have fin : ∀ (i v K : Nat) (μ1 μ1' : Mm), K ≤ 30 → (∃ k, k ≤ K ∧ μ1 11 1 = nI k ∧ μ1' 0 63 = nI k ∧ ∀ j, j < k → j < 20 → μ1 12 j = μ1' 64 j) → (∀ c, c ≠ 11 → c ≠ 12 → μ1 c = μ c) → (∀ c, c ≠ 0 → c ≠ 64 → μ1' c = μ' c) → (∀ j, j ≠ 63 → μ1' 0 j = μ' 0 j) → Inv μ1 ν μ1' ν' := by
    intro i v K μ1 μ1' hK ⟨k, a1, a2, a3, a4⟩ g1 g2 g3
    exact Inv.g h1 h2 h8 h11 h12 (fun c hc => g1 c (by omega) (by omega)) (fun c hc _ => g1 c (by omega) (by omega)) (fun c hc => g2 c (by omega) (by omega)) (fun j hj => g3 j (by omega)) (now_same hs (fun c hc _ => g1 c (by omega) (by omega)) (fun c hc => g2 c (by omega) (by omega)) (fun j hj => g3 j (by omega))) ⟨k, by omega, a2, a3, a4⟩ (h10.keep (g1 21 (by omega) (by omega)) (g1 22 (by omega) (by omega)) (g2 65 (by omega) (by omega)) (g2 66 (by omega) (by omega)))
  have hs0 : SR 40 σ (up2 μ 11 1 0) := hs.1.keep (fun c _ _ => u_cf (by omega))
  have hm0 : MR σ (up2 μ' 0 63 0) := MR_slot hs.2.2.1 (by omega)
  have e0 : Inv (up2 μ 11 1 0) ν (up2 μ' 0 63 0) ν' := fin 0 0 0 _ _ (by omega) ⟨0, by omega, u_eq rfl rfl, u_eq rfl rfl, fun j hj _ => absurd hj (Nat.not_lt_zero j)⟩ (fun c h _ => u_cf h) (fun c h _ => u_cf h) (fun j h => u_nj h)
  unfold F_BT_act F_M_act
  simp only [lt_e]
  rcases pup_c hs0 hm0 hs.2.2.2.2.1 a with ⟨p, hp, rfl, e1, e2⟩ | ⟨e1, e2⟩
  · rw [e1, e2, Option.bind_some, Option.bind_some, if_neg one_ne, if_neg one_ne, within_in]
    rcases in_lit (lo := 0) (hi := 2) (by omega) (by omega) b 0 2 rfl rfl with ⟨m, _, hm2, rfl, e⟩ | e
    · have ev : up2 (up2 μ 11 1 0) 11 2 (nI p) 42 p = nI (σ 2 p) := by
        rw [u_nc (by omega), u_nc (by omega)]
        exact hs.1.2.2.2.2.2.2.2.2.1 p (by omega)
      have hs1 : SR 40 σ (up2 (up2 (up2 μ 11 1 0) 11 2 (nI p)) 11 3 (nI (σ 2 p))) := (hs0.keep (fun c _ _ => u_cf (by omega))).keep (fun c _ _ => u_cf (by omega))
      have A : AR p (σ 2 p) 0 μ (up2 μ' 0 63 0) (up2 (up2 (up2 μ 11 1 0) 11 2 (nI p)) 11 3 (nI (σ 2 p))) (up2 μ' 0 63 0) := by
        refine ⟨⟨0, by omega, ?_, u_eq rfl rfl, fun j hj _ => absurd hj (Nat.not_lt_zero j)⟩, ?_, u_eq rfl rfl, fun c h _ => ?_, fun _ _ _ => rfl, fun _ _ => rfl⟩
        · rw [u_nj (by omega), u_nj (by omega), u_eq rfl rfl]
          rfl
        · rw [u_nj (by omega), u_eq rfl rfl]
        · rw [u_cf h, u_cf h, u_cf h]
      have f2 : ∀ {K : Nat} {μ1 μ1' : Mm}, K ≤ 30 → AR p (σ 2 p) K μ (up2 μ' 0 63 0) μ1 μ1' → Inv μ1 ν μ1' ν' := fun hK B => fin 0 0 _ _ _ hK B.1 B.2.2.2.1 (fun c a b => (B.2.2.2.2.1 c a b).trans (u_cf a)) (fun j h => (B.2.2.2.2.2 j h).trans (u_nj h))
      have e4 : (up2 μ' 0 63 0) 4 p = nI (σ 1 p) := hm0.2.2.2.2.1 p (by omega)
      have e5 : (up2 μ' 0 63 0) 5 p = nI (σ 2 p) := hm0.2.2.2.2.2.1 p (by omega)
      have hkd := hs.2.2.2.2.1.2.2.2.2.2.2.1 p
      rw [e, Option.bind_some, Option.bind_some, if_neg one_ne, if_neg one_ne, rdI_nI (by omega) (by omega), Option.bind_some, ev, x_kindOf hs1 hs.2.2.2.2.1 (by omega), Option.bind_some, q0, ite_eq (by omega) (by omega), ite_eq (by omega) (by omega), q1, ite_eq (by omega) (by omega), ite_eq (by omega) (by omega)]
      rw [← q0]
      by_cases c0 : m = 0
      · obtain ⟨r, μ1, μ1', b1, b2, b3⟩ := a_wh (by omega) hkd e4 e5 A (by omega) x
        rw [if_pos c0, if_pos c0, b1, b2, Option.bind_some, Option.bind_some]
        exact ⟨_, _, _, rfl, rfl, f2 (by omega) b3⟩
      · rw [if_neg c0, if_neg c0]
        by_cases c1 : m = 1
        · obtain ⟨r, μ1, μ1', b1, b2, b3⟩ := a_ch (by omega) hkd e4 e5 A (by omega) x
          rw [if_pos c1, if_pos c1, b1, b2, Option.bind_some, Option.bind_some]
          exact ⟨_, _, _, rfl, rfl, f2 (by omega) b3⟩
        · obtain ⟨r, μ1, μ1', b1, b2, b3⟩ := a_tl (by omega) hkd e4 e5 A (by omega) x
          rw [if_neg c1, if_neg c1, b1, b2, Option.bind_some, Option.bind_some]
          exact ⟨_, _, _, rfl, rfl, f2 (by omega) b3⟩
    · rw [e, Option.bind_some, Option.bind_some, if_pos rfl, if_pos rfl]
      exact ⟨_, _, _, rfl, rfl, e0⟩
  · rw [e1, e2, Option.bind_some, Option.bind_some, if_pos rfl, if_pos rfl]
    exact ⟨_, _, _, rfl, rfl, e0⟩
end CMD
