/-! lines, rows told by hand -/
theorem ups_e {σ : Sg} {i j v : Nat} : ups σ i j v i j = v := if_pos ⟨rfl, rfl⟩
theorem ups_n {σ : Sg} {i j v a b : Nat} (h : a ≠ i ∨ b ≠ j) : ups σ i j v a b = σ a b := if_neg (fun q => by rcases h with h | h; exact h q.1; exact h q.2)
theorem SR_row5 {b : Nat} {σ : Sg} {μ μ' : Mm} {f : Nat → Nat} (S : SR b σ μ) (h3 : ∀ i, i < 24 → μ' (b + 5) i = nI (f i)) (ho : ∀ c, c ≠ b + 5 → μ' c = μ c) : SR b (row σ 5 f) μ' := by
  obtain ⟨s1, s2, s3, s4, s5, s6, s7, s8, s9, s10, s11, s12, s13⟩ := S
  unfold SR
  rw [ho b (by omega), ho (b + 1) (by omega), ho (b + 2) (by omega), ho (b + 3) (by omega), ho (b + 4) (by omega), ho (b + 6) (by omega)]
  exact ⟨s1, s2, s3, s4, s5, s6, s7, s8, s9, s10, s11, h3, s13⟩
theorem MR_row5 {σ : Sg} {μ μ' : Mm} {f : Nat → Nat} (S : MR σ μ) (h3 : ∀ i, i < 24 → μ' 8 i = nI (f i)) (ho : ∀ c, c ≠ 8 → μ' c = μ c) : MR (row σ 5 f) μ' := by
  obtain ⟨s1, s2, s3, s4, s5, s6, s7, s8, s9⟩ := S
  unfold MR
  rw [ho 0 (by omega), ho 4 (by omega), ho 5 (by omega), ho 6 (by omega), ho 7 (by omega)]
  exact ⟨s1, s2, s3, s4, s5, s6, s7, s8, h3⟩
theorem BW_row5 {σ : Sg} {f : Nat → Nat} (B : BW σ) (h : ∀ p, f p ≤ 9) : BW (row σ 5 f) := ⟨B.1, B.2.1, B.2.2.1, B.2.2.2.1, B.2.2.2.2.1, B.2.2.2.2.2.1, B.2.2.2.2.2.2.1, B.2.2.2.2.2.2.2.1, B.2.2.2.2.2.2.2.2.1, B.2.2.2.2.2.2.2.2.2.1, h, B.2.2.2.2.2.2.2.2.2.2.2⟩
theorem SR.keep {b : Nat} {σ : Sg} {μ μ' : Mm} (S : SR b σ μ) (g : ∀ c, b ≤ c → c ≤ b + 6 → μ' c = μ c) : SR b σ μ' := by
  unfold SR
  rw [g b (by omega) (by omega), g (b + 1) (by omega) (by omega), g (b + 2) (by omega) (by omega), g (b + 3) (by omega) (by omega), g (b + 4) (by omega) (by omega), g (b + 5) (by omega) (by omega), g (b + 6) (by omega) (by omega)]
  exact S
section CMD
variable {μ μ' : Mm} {ν ν' : Ml}
theorem st_line (I : Inv μ ν μ' ν') (a b c : Int32) : ∃ r μ1 μ1', F_BT_line a b c μ = some (r, μ1) ∧ F_M_line a b c μ' = some (r, μ1') ∧ Inv μ1 ν μ1' ν' := by
  obtain ⟨n, rsf, L, tx, σ, τ, im, h1, h2, ⟨h3, h4, h5, h6, h7⟩, h8, h9, h10, h11, h12⟩ := id I
  unfold F_BT_line F_M_line
  rcases pup_c h3 h5 h7.1 a with ⟨p, hp, rfl, e1, e2⟩ | ⟨e1, e2⟩
  · have h66 := h7.1.1
    have hk := h7.1.2.2.2.2.2.2.1 p
    rw [e1, e2, Option.bind_some, Option.bind_some, if_neg one_ne, if_neg one_ne, within_in]
    rcases in_lit (lo := 0) (hi := 3) (by omega) (by omega) b 0 3 rfl rfl with ⟨k, _, hk3, rfl, e⟩ | e
    · rw [e, Option.bind_some, Option.bind_some, if_neg one_ne, if_neg one_ne, within_in]
      rcases in_lit (lo := 0) (hi := 9) (by omega) (by omega) c 0 9 rfl rfl with ⟨m, _, hm9, rfl, e⟩ | e
      · rw [e, Option.bind_some, Option.bind_some, if_neg one_ne, if_neg one_ne, rdI_nI (by omega) (by omega), Option.bind_some, rdI_nI (by omega) (by omega), Option.bind_some, h5.2.2.2.2.1 p (by omega), q4, q6, pk_mul, pk_mul, nI_add, nI_add, Nat.mul_comm 4 p]
        have ek : μ 41 p = nI (σ 1 p) := h3.2.2.2.2.2.2.2.1 p (by omega)
        rw [ek, ite_eq (by omega) (by omega), ite_eq (by omega) (by omega)]
        by_cases h6k : σ 1 p = 6
        · rw [if_pos h6k, if_pos h6k, rdI_nI (by omega) (by omega), Option.bind_some, wrI_nI (by omega) (by omega), Option.bind_some, rdI_nI (by omega) (by omega), Option.bind_some, wrI_nI (by omega) (by omega), Option.bind_some]
          have ex : μ 45 (p * 4 + k) = nI (σ 5 (p * 4 + k)) := h3.2.2.2.2.2.2.2.2.2.2.2.1 _ (by omega)
          have em : μ' 8 (p * 4 + k) = nI (σ 5 (p * 4 + k)) := h5.2.2.2.2.2.2.2.2 _ (by omega)
          refine ⟨_, _, _, by rw [ex], by rw [em], Inv.now (σ := row σ 5 (fun j => if j = p * 4 + k then m else σ 5 j)) h1 h2 h8 h9 h10 h11 h12 (Off.up Off.rf (by omega) (by omega)) (MN.up MN.rf (by omega)) ⟨SR_row5 h3 (fun j hj => ?_) (fun c hc => u_cf (by omega)), ?_, MR_row5 h5 (fun j hj => ?_) (fun c hc => u_cf hc), ?_, ⟨BW_row5 h7.1 (fun j => ?_), h7.2.1, h7.2.2.1, h7.2.2.2.1, h7.2.2.2.2⟩⟩⟩
          · by_cases h : j = p * 4 + k
            · rw [if_pos h, u_eq rfl h]
            · rw [if_neg h, u_nj h]
              exact h3.2.2.2.2.2.2.2.2.2.2.2.1 j hj
          · have := h4
            unfold SX at this ⊢
            simp (disch := omega) only [u_nc]
            exact this
          · by_cases h : j = p * 4 + k
            · rw [if_pos h, u_eq rfl h]
            · rw [if_neg h, u_nj h]
              exact h5.2.2.2.2.2.2.2.2 j hj
          · have := h6
            unfold MX at this ⊢
            simp (disch := omega) only [u_nc]
            exact this
          · have := h7.1.2.2.2.2.2.2.2.2.2.2.1 j
            show (if j = p * 4 + k then m else σ 5 j) ≤ _
            split <;> omega
        · rw [if_neg h6k, if_neg h6k]
          exact ⟨_, _, _, rfl, rfl, I⟩
      · rw [e, Option.bind_some, Option.bind_some, if_pos rfl, if_pos rfl]
        exact ⟨_, _, _, rfl, rfl, I⟩
    · rw [e, Option.bind_some, Option.bind_some, if_pos rfl, if_pos rfl]
      exact ⟨_, _, _, rfl, rfl, I⟩
  · rw [e1, e2, Option.bind_some, Option.bind_some, if_pos rfl, if_pos rfl]
    exact ⟨_, _, _, rfl, rfl, I⟩
theorem MX_dec {σ : Sg} {μ : Mm} (h : MX σ μ) : μ 0 34 = nI (σ 7 0) ∧ μ 0 37 = nI (σ 10 0) ∧ μ 0 38 = nI (σ 13 0) := ⟨h.2.1.1, h.2.2.1.1, h.2.2.2.1⟩
theorem st_hear (I : Inv μ ν μ' ν') (a b : Int32) : ∃ r μ1 μ1', F_BT_hear a b μ = some (r, μ1) ∧ F_M_hear a b μ' = some (r, μ1') ∧ Inv μ1 ν μ1' ν' := by
  obtain ⟨n, rsf, L, tx, σ, τ, im, h1, h2, ⟨h3, h4, h5, h6, h7⟩, h8, h9, h10, h11, h12⟩ := id I
  obtain ⟨⟨x1, x2⟩, x3, x4, x5⟩ := id h4
  obtain ⟨m0, ⟨m1, m2⟩, m3, m4⟩ := id h6
  have b5 := h7.2.1.1
  unfold F_BT_hear F_M_hear F_Rows_empties
  by_cases ha : a = -1
  · rw [if_pos ha, if_pos ha]
    simp only [lt_e]
    refine ⟨0, up2 μ 47 2 0, up2 μ' 0 34 0, rfl, rfl, Inv.now (σ := ups σ 7 0 0) h1 h2 h8 h9 h10 h11 h12 (Off.up Off.rf (by omega) (by omega)) (MN.up MN.rf (by omega)) ⟨?_, ?_, ?_, ?_, ⟨h7.1, ⟨Nat.zero_le _, h7.2.1.2⟩, h7.2.2.1, h7.2.2.2.1, h7.2.2.2.2⟩⟩⟩
    · show SR 40 σ _
      exact h3.keep (fun c hc1 hc2 => by simp (disch := omega) only [u_cf])
    · refine ⟨⟨(u_eq rfl rfl).trans (show (0 : Int32) = nI (ups σ 7 0 0 7 0) by rw [ups_e]; rfl), fun i hi => absurd hi (by rw [ups_e]; exact Nat.not_lt_zero i)⟩, ?_, ?_, ?_⟩
      · simp (disch := omega) only [u_nc]
        exact x3
      · simp (disch := omega) only [u_nc]
        exact x4
      · rw [u_nc (by omega)]
        exact x5
    · exact MR_slot h5 (by omega)
    · refine ⟨(u_nj (by omega)).trans m0, ⟨u_eq rfl rfl, fun i hi => absurd hi (Nat.not_lt_zero i)⟩, ?_, ?_⟩
      · simp (disch := omega) only [u_nc, u_nj]
        exact m3
      · simp (disch := omega) only [u_nc, u_nj]
        exact m4
  · rw [if_neg ha, if_neg ha, within_in]
    unfold F_M_isNoise
    rcases in_lit (lo := 0) (hi := 999) (by omega) (by omega) a 0 999 rfl rfl with ⟨k, _, hk, rfl, e⟩ | e
    · rw [e, Option.bind_some, Option.bind_some, rZ_1, Option.bind_some, Option.bind_some, if_neg one_ne, if_neg one_ne, within_in]
      rcases in_lit (lo := 0) (hi := 20) (by omega) (by omega) b 0 20 rfl rfl with ⟨w, _, hw, rfl, e⟩ | e
      · rw [e, Option.bind_some, Option.bind_some, if_neg one_ne, if_neg one_ne, m1, q5, ite_eq (by omega) (by omega), r_takes (r := 47) x1 (by decide) b5]
        have hrl : rlen 47 = 5 := rfl
        rw [hrl]
        by_cases h5' : σ 7 0 = 5
        · rw [if_pos h5', if_pos h5']
          exact ⟨_, _, _, rfl, rfl, I⟩
        · rw [if_neg h5', if_neg h5', wrI_nI (by omega) (by omega), Option.bind_some, Option.bind_some]
          have e34 : up2 μ' 35 (σ 7 0) (nI k) 0 34 = nI (σ 7 0) := by rw [u_nc (by omega)]; exact m1
          rw [e34, wrI_nI (by omega) (by omega), Option.bind_some]
          simp only [lt_e]
          have e34' : up2 (up2 μ' 35 (σ 7 0) (nI k)) 36 (σ 7 0) (nI w) 0 34 = nI (σ 7 0) := by rw [u_nc (by omega)]; exact e34
          rw [e34', nI_1, u_eq rfl rfl]
          refine ⟨_, _, _, rfl, rfl, Inv.now (σ := ups (ups (ups σ 8 (σ 7 0) k) 9 (σ 7 0) w) 7 0 (σ 7 0 + 1)) h1 h2 h8 h9 h10 h11 h12 (Off.up (Off.up (Off.up Off.rf (by omega) (by omega)) (by omega) (by omega)) (by omega) (by omega)) (MN.up (MN.up (MN.up MN.rf (by omega)) (by omega)) (by omega)) ⟨?_, ?_, ?_, ?_, ⟨h7.1, ⟨?_, h7.2.1.2.1, h7.2.1.2.2.1, fun i => ?_, fun i => ?_, h7.2.1.2.2.2.2.2⟩, h7.2.2.1, h7.2.2.2.1, h7.2.2.2.2⟩⟩⟩
          · show SR 40 σ _
            exact h3.keep (fun c hc1 hc2 => by simp (disch := omega) only [u_cf])
          · refine ⟨⟨u_eq rfl rfl, fun i hi => ?_⟩, ?_, ?_, ?_⟩
            · have hi' : i < σ 7 0 + 1 := hi
              by_cases h : i = σ 7 0
              · subst h
                simp (disch := omega) only [u_nc, u_eq]
                rw [ups_n (by omega), ups_n (by omega), ups_e, ups_n (by omega), ups_e]
                exact ⟨rfl, rfl⟩
              · simp (disch := omega) only [u_nc, u_nj]
                rw [ups_n (by omega), ups_n (by omega), ups_n (by omega), ups_n (by omega), ups_n (by omega), ups_n (by omega)]
                exact x2 i (by omega)
            · simp (disch := omega) only [u_nc]
              exact x3
            · simp (disch := omega) only [u_nc]
              exact x4
            · simp (disch := omega) only [u_nc]
              exact x5
          · exact MR_slot (MR_cell (MR_cell h5 (by omega)) (by omega)) (by omega)
          · refine ⟨?_, ⟨u_eq rfl rfl, fun i hi => ?_⟩, ?_, ?_⟩
            · simp (disch := omega) only [u_nc, u_nj]
              exact m0
            · have hi' : i < σ 7 0 + 1 := hi
              by_cases h : i = σ 7 0
              · subst h
                simp (disch := omega) only [u_nc, u_eq]
                rw [ups_n (by omega), ups_n (by omega), ups_e, ups_n (by omega), ups_e]
                exact ⟨rfl, rfl⟩
              · simp (disch := omega) only [u_nc, u_nj]
                rw [ups_n (by omega), ups_n (by omega), ups_n (by omega), ups_n (by omega), ups_n (by omega), ups_n (by omega)]
                exact m2 i (by omega)
            · simp (disch := omega) only [u_nc, u_nj]
              exact m3
            · simp (disch := omega) only [u_nc, u_nj]
              exact m4
          · show σ 7 0 + 1 ≤ 5
            omega
          · rw [ups_n (by omega), ups_n (by omega)]
            by_cases h : i = σ 7 0
            · rw [h, ups_e]; exact hk
            · rw [ups_n (by omega)]; exact h7.2.1.2.2.2.1 i
          · rw [ups_n (by omega)]
            by_cases h : i = σ 7 0
            · rw [h, ups_e]; exact hw
            · rw [ups_n (by omega), ups_n (by omega)]; exact h7.2.1.2.2.2.2.1 i
      · rw [e, Option.bind_some, Option.bind_some, if_pos rfl, if_pos rfl]
        exact ⟨_, _, _, rfl, rfl, I⟩
    · rw [e, Option.bind_some, Option.bind_some, rZ_0, Option.bind_some, Option.bind_some, if_pos rfl, if_pos rfl]
      exact ⟨_, _, _, rfl, rfl, I⟩
theorem st_book (I : Inv μ ν μ' ν') (a b : Int32) : ∃ r μ1 μ1', F_BT_book a b μ = some (r, μ1) ∧ F_M_book a b μ' = some (r, μ1') ∧ Inv μ1 ν μ1' ν' := by
  obtain ⟨n, rsf, L, tx, σ, τ, im, h1, h2, ⟨h3, h4, h5, h6, h7⟩, h8, h9, h10, h11, h12⟩ := id I
  obtain ⟨x3, x4, ⟨x1, x2⟩, x5⟩ := id h4
  obtain ⟨m0, m3, m4, m1, m2⟩ := id h6
  have b8 := h7.2.1.2.2.1
  unfold F_BT_book F_M_book F_Rows_empties
  by_cases ha : a = -1
  · rw [if_pos ha, if_pos ha]
    simp only [lt_e]
    refine ⟨0, up2 μ 53 2 0, up2 μ' 0 38 0, rfl, rfl, Inv.now (σ := ups σ 13 0 0) h1 h2 h8 h9 h10 h11 h12 (Off.up Off.rf (by omega) (by omega)) (MN.up MN.rf (by omega)) ⟨?_, ?_, ?_, ?_, ⟨h7.1, ⟨h7.2.1.1, h7.2.1.2.1, Nat.zero_le _, h7.2.1.2.2.2⟩, h7.2.2.1, h7.2.2.2.1, h7.2.2.2.2⟩⟩⟩
    · show SR 40 σ _
      exact h3.keep (fun c hc1 hc2 => by simp (disch := omega) only [u_cf])
    · refine ⟨?_, ?_, ⟨(u_eq rfl rfl).trans (show (0 : Int32) = nI (ups σ 13 0 0 13 0) by rw [ups_e]; rfl), fun i hi => absurd hi (by rw [ups_e]; exact Nat.not_lt_zero i)⟩, ?_⟩
      · simp (disch := omega) only [u_nc]
        exact x3
      · simp (disch := omega) only [u_nc]
        exact x4
      · rw [u_nc (by omega)]
        exact x5
    · exact MR_slot h5 (by omega)
    · refine ⟨(u_nj (by omega)).trans m0, ?_, ?_, ⟨u_eq rfl rfl, fun i hi => absurd hi (Nat.not_lt_zero i)⟩⟩
      · simp (disch := omega) only [u_nc, u_nj]
        exact m3
      · simp (disch := omega) only [u_nc, u_nj]
        exact m4
  · rw [if_neg ha, if_neg ha]
    rcases pup_c h3 h5 h7.1 a with ⟨p, hp, rfl, e1, e2⟩ | ⟨e1, e2⟩
    · have h66 := h7.1.1
      rw [e1, e2, Option.bind_some, Option.bind_some, if_neg one_ne, if_neg one_ne]
      rcases desk_c b with ⟨w, hw, rfl, d1, d2⟩ | ⟨d1, d2⟩
      · have q8 : (8 : Int32) = nI 8 := rfl
        rw [d1, d2, Option.bind_some, Option.bind_some, if_neg one_ne, if_neg one_ne, m1, q8, ite_eq (by omega) (by omega), r_takes (r := 53) x1 (by decide) b8]
        have hrl : rlen 53 = 8 := rfl
        rw [hrl]
        by_cases h5' : σ 13 0 = 8
        · rw [if_pos h5', if_pos h5']
          exact ⟨_, _, _, rfl, rfl, I⟩
        · rw [if_neg h5', if_neg h5', wrI_nI (by omega) (by omega), Option.bind_some, Option.bind_some]
          have e34 : up2 μ' 41 (σ 13 0) (nI p) 0 38 = nI (σ 13 0) := by rw [u_nc (by omega)]; exact m1
          rw [e34, wrI_nI (by omega) (by omega), Option.bind_some]
          simp only [lt_e]
          have e34' : up2 (up2 μ' 41 (σ 13 0) (nI p)) 42 (σ 13 0) (nI w) 0 38 = nI (σ 13 0) := by rw [u_nc (by omega)]; exact e34
          rw [e34', nI_1, u_eq rfl rfl]
          refine ⟨_, _, _, rfl, rfl, Inv.now (σ := ups (ups (ups σ 14 (σ 13 0) p) 15 (σ 13 0) w) 13 0 (σ 13 0 + 1)) h1 h2 h8 h9 h10 h11 h12 (Off.up (Off.up (Off.up Off.rf (by omega) (by omega)) (by omega) (by omega)) (by omega) (by omega)) (MN.up (MN.up (MN.up MN.rf (by omega)) (by omega)) (by omega)) ⟨?_, ?_, ?_, ?_, ⟨h7.1, ⟨h7.2.1.1, h7.2.1.2.1, ?_, h7.2.1.2.2.2.1, h7.2.1.2.2.2.2.1, h7.2.1.2.2.2.2.2.1, h7.2.1.2.2.2.2.2.2.1, fun i => ?_, fun i => ?_, h7.2.1.2.2.2.2.2.2.2.2.2⟩, h7.2.2.1, h7.2.2.2.1, h7.2.2.2.2⟩⟩⟩
          · show SR 40 σ _
            exact h3.keep (fun c hc1 hc2 => by simp (disch := omega) only [u_cf])
          · refine ⟨?_, ?_, ⟨u_eq rfl rfl, fun i hi => ?_⟩, ?_⟩
            · simp (disch := omega) only [u_nc]
              exact x3
            · simp (disch := omega) only [u_nc]
              exact x4
            · have hi' : i < σ 13 0 + 1 := hi
              by_cases h : i = σ 13 0
              · subst h
                simp (disch := omega) only [u_nc, u_eq]
                rw [ups_n (by omega), ups_n (by omega), ups_e, ups_n (by omega), ups_e]
                exact ⟨rfl, rfl⟩
              · simp (disch := omega) only [u_nc, u_nj]
                rw [ups_n (by omega), ups_n (by omega), ups_n (by omega), ups_n (by omega), ups_n (by omega), ups_n (by omega)]
                exact x2 i (by omega)
            · simp (disch := omega) only [u_nc]
              exact x5
          · exact MR_slot (MR_cell (MR_cell h5 (by omega)) (by omega)) (by omega)
          · refine ⟨?_, ?_, ?_, ⟨u_eq rfl rfl, fun i hi => ?_⟩⟩
            · simp (disch := omega) only [u_nc, u_nj]
              exact m0
            · simp (disch := omega) only [u_nc, u_nj]
              exact m3
            · simp (disch := omega) only [u_nc, u_nj]
              exact m4
            · have hi' : i < σ 13 0 + 1 := hi
              by_cases h : i = σ 13 0
              · subst h
                simp (disch := omega) only [u_nc, u_eq]
                rw [ups_n (by omega), ups_n (by omega), ups_e, ups_n (by omega), ups_e]
                exact ⟨rfl, rfl⟩
              · simp (disch := omega) only [u_nc, u_nj]
                rw [ups_n (by omega), ups_n (by omega), ups_n (by omega), ups_n (by omega), ups_n (by omega), ups_n (by omega)]
                exact m2 i (by omega)
          · show σ 13 0 + 1 ≤ 8
            omega
          · rw [ups_n (by omega), ups_n (by omega)]
            by_cases h : i = σ 13 0
            · rw [h, ups_e]; omega
            · rw [ups_n (by omega)]; exact h7.2.1.2.2.2.2.2.2.2.1 i
          · rw [ups_n (by omega)]
            by_cases h : i = σ 13 0
            · rw [h, ups_e]; exact hw
            · rw [ups_n (by omega), ups_n (by omega)]; exact h7.2.1.2.2.2.2.2.2.2.2.1 i
      · rw [d1, d2, Option.bind_some, Option.bind_some, if_pos rfl, if_pos rfl]
        exact ⟨_, _, _, rfl, rfl, I⟩
    · rw [e1, e2, Option.bind_some, Option.bind_some, if_pos rfl, if_pos rfl]
      exact ⟨_, _, _, rfl, rfl, I⟩
theorem Inv_count (I : Inv μ ν μ' ν') : μ 40 1 = μ' 0 0 ∧ μ 1 2 = μ' 0 9 ∧ μ 47 2 = μ' 0 34 ∧ μ 50 2 = μ' 0 37 ∧ μ 53 2 = μ' 0 38 ∧ F_Rooms_signs μ = some (μ' 0 11) ∧ μ 11 1 = μ' 0 63 := by
  obtain ⟨n, rsf, L, tx, σ, τ, im, h1, h2, ⟨h3, h4, h5, h6, h7⟩, h8, ⟨k, _, k1, k2, _⟩, h10, h11, h12⟩ := I
  refine ⟨h3.1.trans h5.1.symm, h1.2.1.trans h1.2.2.1.symm, h4.1.1.trans h6.2.1.1.symm, h4.2.1.1.trans h6.2.2.1.1.symm, h4.2.2.1.1.trans h6.2.2.2.1.symm, ?_, k1.trans k2.symm⟩
  unfold F_Rooms_signs
  have := h1.1
  rw [h1.2.1, rdI_nI (by omega) (by omega), Option.bind_some, h2.2.1, h2.2.2.1]
theorem st_count (I : Inv μ ν μ' ν') (a : Int32) : ∃ r, F_BT_count a μ = some r ∧ F_M_count a μ' = some r := by
  obtain ⟨c0, c1, c2, c3, c4, c5, c6⟩ := Inv_count I
  unfold F_BT_count F_M_count
  rw [c0, c1, c2, c3, c4, c5, c6, Option.bind_some]
  repeat' split
  all_goals exact ⟨_, rfl, rfl⟩
end CMD
