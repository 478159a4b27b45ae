/-! the commands one by one: both answer alike, and the relation is kept -/
def MN (μ μ1 : Mm) : Prop := (∀ c, (8 < c ∧ c ≠ 26 ∧ c ≠ 31 ∧ c ≠ 32 ∧ c ≠ 33 ∧ c ≠ 35 ∧ c ≠ 36 ∧ (c < 39 ∨ 42 < c)) → μ1 c = μ c) ∧ ∀ j, (3 < j ∧ j ≠ 10 ∧ j ≠ 28 ∧ j ≠ 29 ∧ j ≠ 30 ∧ j ≠ 34 ∧ j ≠ 37 ∧ j ≠ 38) → μ1 0 j = μ 0 j
theorem MN.rf {μ : Mm} : MN μ μ := ⟨fun _ _ => rfl, fun _ _ => rfl⟩
theorem MN.tr {μ μ1 μ2 : Mm} (h1 : MN μ μ1) (h2 : MN μ1 μ2) : MN μ μ2 := ⟨fun c h => (h2.1 c h).trans (h1.1 c h), fun j h => (h2.2 j h).trans (h1.2 j h)⟩
theorem MN.up {μ μ1 : Mm} {c k : Nat} {x : Int32} (h : MN μ μ1) (hc : (4 ≤ c ∧ c ≤ 8) ∨ c = 35 ∨ c = 36 ∨ (39 ≤ c ∧ c ≤ 42) ∨ (c = 0 ∧ (k ≤ 3 ∨ k = 10 ∨ k = 34 ∨ k = 37 ∨ k = 38))) : MN μ (up2 μ1 c k x) := by
  refine ⟨fun d hd => ?_, fun j hj => ?_⟩
  · rw [u_cf (by omega)]
    exact h.1 d hd
  · rcases (show c ≠ 0 ∨ j ≠ k by omega) with h1 | h1
    · rw [u_nc (by omega)]
      exact h.2 j hj
    · rw [u_nj h1]
      exact h.2 j hj
theorem MN.p26 {μ μ1 : Mm} (h : P26 μ μ1) : MN μ μ1 := ⟨fun c hc => h c (by omega), fun j _ => by rw [h 0 (by omega)]⟩
theorem Inv.now {μ μ' μ1 μ1' : Mm} {ν ν' : Ml} {n L : Nat} {rsf : Nat → Rsp} {tx : Nat → Nat} {σ τ : Sg} {im : Bool} (h1 : RR n rsf μ μ') (h2 : TX n L tx μ μ') (h8 : IM n rsf im τ μ μ') (h9 : TR μ μ') (h10 : TP μ ν μ' ν') (h11 : LT μ') (h12 : μ' 0 27 = 9999) (hx : Off 40 55 μ μ1) (hm : MN μ' μ1') (s : SR 40 σ μ1 ∧ SX 40 σ μ1 ∧ MR σ μ1' ∧ MX σ μ1' ∧ GS n rsf σ) : Inv μ1 ν μ1' ν' := by
  have hn := h1.1
  have g : ∀ c, 42 < c → μ1' c = μ' c := fun c hc => hm.1 c (by omega)
  refine ⟨n, rsf, L, tx, σ, τ, im, ⟨h1.1, by rw [hx 1 (by omega)]; exact h1.2.1, (hm.2 9 (by omega)).trans h1.2.2.1, fun i hi => ⟨(h1.2.2.2 i hi).1, (h1.2.2.2 i hi).2.1.mv (hx _ (by omega)) (by rw [hx 10 (by omega)]), (h1.2.2.2 i hi).2.2.mv (by rw [hm.1 15 (by omega)]) (fun c k a b _ _ => by rw [hm.1 c (by omega)]) (fun k _ _ => by rw [hm.1 20 (by omega)])⟩⟩, ?_, s, ⟨by rw [hx 0 (by omega)]; exact h8.1, (hm.2 43 (by omega)).trans h8.2.1, fun hi => ?_⟩, ?_, ?_, fun i hi => by rw [hm.1 25 (by omega)]; exact h11 i hi, (hm.2 27 (by omega)).trans h12⟩
  · unfold TX
    rw [hx 10 (by omega), hx (3 + n) (by omega), hm.2 11 (by omega), hm.1 14 (by omega)]
    exact h2
  · obtain ⟨a, b, c, d⟩ := h8.2.2 hi
    refine ⟨a.off hx (by omega), b.off hx (by omega), ?_, d⟩
    unfold MI
    rw [hm.2 44 (by omega), hm.2 45 (by omega), hm.2 46 (by omega), hm.2 47 (by omega), hm.2 48 (by omega), hm.2 49 (by omega), hm.2 50 (by omega), hm.2 51 (by omega), g 52 (by omega), g 53 (by omega), g 54 (by omega), g 55 (by omega), g 56 (by omega), g 57 (by omega), g 58 (by omega), g 59 (by omega), g 60 (by omega), g 61 (by omega), g 62 (by omega)]
    exact c
  · unfold TR
    rw [hx 11 (by omega), hx 12 (by omega), hm.2 63 (by omega), g 64 (by omega)]
    exact h9
  · unfold TP
    rw [hx 21 (by omega), hx 22 (by omega), g 65 (by omega), g 66 (by omega)]
    exact h10
/-! checks -/
theorem in_nI {lo hi : Nat} (hl : lo < 2147483648) (hh : hi < 2147483648) (a : Int32) : (∃ k, lo ≤ k ∧ k ≤ hi ∧ a = nI k ∧ F_M_in a (nI lo) (nI hi) = some 1) ∨ F_M_in a (nI lo) (nI hi) = some 0 := by
  unfold F_M_in
  rcases i32_cases a with h | ⟨k, hk, rfl⟩
  · right
    rw [if_pos (neg_lt h hl)]
  · rw [ite_lt hk hl, ite_lt hh hk]
    by_cases h1 : k < lo
    · right
      rw [if_pos h1]
    · by_cases h2 : hi < k
      · right
        rw [if_neg h1, if_pos h2]
      · left
        exact ⟨k, by omega, by omega, rfl, by rw [if_neg h1, if_neg h2]⟩
theorem within_in (a b c : Int32) : F_BT_within a b c = F_M_in a b c := rfl
theorem in_lit {lo hi : Nat} (hl : lo < 2147483648) (hh : hi < 2147483648) (a l h : Int32) (el : l = nI lo) (eh : h = nI hi) : (∃ k, lo ≤ k ∧ k ≤ hi ∧ a = nI k ∧ F_M_in a l h = some 1) ∨ F_M_in a l h = some 0 := by
  subst el; subst eh
  exact in_nI hl hh a
theorem desk_c (a : Int32) : (∃ k, k ≤ 5 ∧ a = nI k ∧ F_BT_isDesk a = some 1 ∧ F_M_isDesk a = some 1) ∨ (F_BT_isDesk a = some 0 ∧ F_M_isDesk a = some 0) := by
  unfold F_BT_isDesk F_M_isDesk
  rw [within_in]
  rcases in_lit (lo := 0) (hi := 5) (by omega) (by omega) a 0 5 rfl rfl with ⟨k, _, hk, rfl, e⟩ | e
  · left
    exact ⟨k, hk, rfl, by rw [e]; rfl, by rw [e]; rfl⟩
  · right
    rw [e]
    exact ⟨rfl, rfl⟩
theorem pup_c {b : Nat} {σ : Sg} {μ μ' : Mm} (S : SR b σ μ) (M : MR σ μ') (B : BW σ) (a : Int32) : (∃ p, p < σ 0 0 ∧ a = nI p ∧ F_Seat_has b a μ = some 1 ∧ F_M_isPupil a μ' = some 1) ∨ (F_Seat_has b a μ = some 0 ∧ F_M_isPupil a μ' = some 0) := by
  have h6 := B.1
  unfold F_Seat_has F_M_isPupil F_M_in
  rw [S.1, M.1]
  rcases i32_cases a with h | ⟨k, hk, rfl⟩
  · right
    rw [if_pos h, if_pos h]
    exact ⟨rfl, rfl⟩
  · have hn : ¬ nI k < 0 := nn_not_neg hk
    rw [if_neg hn, if_neg hn, ite_le (by omega) hk]
    have hs := pk_sub_toInt (a := σ 0 0) (b := 1) (by omega) (by omega)
    have h1 : (nI (σ 0 0) - 1 < nI k) ↔ σ 0 0 ≤ k := by
      rw [Int32.lt_iff_toInt_lt, show (nI (σ 0 0) - 1) = nI (σ 0 0) - nI 1 from rfl, hs, nI_toInt (by omega)]
      omega
    by_cases hp : σ 0 0 ≤ k
    · right
      rw [if_pos hp, if_pos (h1.mpr hp)]
      exact ⟨rfl, rfl⟩
    · left
      refine ⟨k, by omega, rfl, by rw [if_neg hp], ?_⟩
      rw [if_neg (fun q => hp (h1.mp q))]
      rfl
theorem one_ne : ¬ (1 : Int32) = 0 := by decide
theorem nI_m1 {k : Nat} (hk : k < 2147483648) : ¬ nI k = -1 := by
  intro h
  have h1 := congrArg Int32.toInt h
  rw [nI_toInt (by omega)] at h1
  have h2 : (-1 : Int32).toInt = -1 := by decide
  omega
section CMD
variable {μ μ' : Mm} {ν ν' : Ml}
theorem st_knows (I : Inv μ ν μ' ν') (a b : Int32) : ∃ r μ1 μ1', F_BT_knows a b μ = some (r, μ1) ∧ F_M_knows a b μ' = some (r, μ1') ∧ Inv μ1 ν μ1' ν' := by
  obtain ⟨n, rsf, L, tx, σ, τ, im, h1, h2, ⟨h3, h4, h5, h6, h7⟩, h8, h9, h10, h11, h12⟩ := id I
  unfold F_BT_knows F_M_knows
  rcases pup_c h3 h5 h7.1 a with ⟨p, hp, rfl, e1, e2⟩ | ⟨e1, e2⟩
  · have h66 := h7.1.1
    rw [e1, e2, Option.bind_some, Option.bind_some, if_neg one_ne, if_neg one_ne, within_in]
    rcases in_lit (lo := 0) (hi := 9999) (by omega) (by omega) b 0 9999 rfl rfl with ⟨k, _, hk, rfl, e⟩ | e
    · rw [e, Option.bind_some, Option.bind_some, if_neg one_ne, if_neg one_ne, rdI_nI (by omega) (by omega), Option.bind_some, wrI_nI (by omega) (by omega), Option.bind_some, rdI_nI (by omega) (by omega), Option.bind_some, wrI_nI (by omega) (by omega), Option.bind_some]
      have ex : μ 44 p = nI (σ 4 p) := h3.2.2.2.2.2.2.2.2.2.2.1 p (by omega)
      have em : μ' 7 p = nI (σ 4 p) := h5.2.2.2.2.2.2.2.1 p (by omega)
      refine ⟨nI (σ 4 p), _, _, by rw [ex], by rw [em], Inv.now (σ := row σ 4 (fun j => if j = p then k else σ 4 j)) h1 h2 h8 h9 h10 h11 h12 (Off.up Off.rf (by omega) (by omega)) (MN.up MN.rf (by omega)) ⟨SR_row4 h3 (fun j hj => ?_) (fun c hc => u_cf (by omega)), ?_, MR_row4 h5 (fun j hj => ?_) (fun c hc => u_cf hc), ?_, ⟨BW_row4 h7.1 (fun j => ?_), h7.2.1, h7.2.2.1, h7.2.2.2.1, fun j => ?_, h7.2.2.2.2.2⟩⟩⟩
      · by_cases h : j = p
        · rw [if_pos h, u_eq rfl h]
        · rw [if_neg h, u_nj h]
          exact h3.2.2.2.2.2.2.2.2.2.2.1 j hj
      · have := h4
        unfold SX at this ⊢
        simp (disch := omega) only [u_nc]
        exact this
      · by_cases h : j = p
        · rw [if_pos h, u_eq rfl h]
        · rw [if_neg h, u_nj h]
          exact h5.2.2.2.2.2.2.2.1 j hj
      · have := h6
        unfold MX at this ⊢
        simp (disch := omega) only [u_nc]
        exact this
      · have := h7.2.2.2.2.1 j
        show (if j = p then k else σ 4 j) ≤ _
        split <;> omega
      · have := h7.2.2.2.2.1 j
        show (if j = p then k else σ 4 j) ≤ _
        split <;> omega
    · rw [e, Option.bind_some, Option.bind_some, if_pos rfl, if_pos rfl]
      exact ⟨_, _, _, rfl, rfl, I⟩
  · rw [e1, e2, Option.bind_some, Option.bind_some, if_pos rfl, if_pos rfl]
    exact ⟨_, _, _, rfl, rfl, I⟩
theorem st_away (I : Inv μ ν μ' ν') (a b : Int32) : ∃ r μ1 μ1', F_BT_away a b μ = some (r, μ1) ∧ F_M_away a b μ' = some (r, μ1') ∧ Inv μ1 ν μ1' ν' := by
  obtain ⟨n, rsf, L, tx, σ, τ, im, h1, h2, ⟨h3, h4, h5, h6, h7⟩, h8, h9, h10, h11, h12⟩ := id I
  unfold F_BT_away F_M_away
  rcases pup_c h3 h5 h7.1 a with ⟨p, hp, rfl, e1, e2⟩ | ⟨e1, e2⟩
  · have h66 := h7.1.1
    obtain ⟨c, hc⟩ : ∃ c : Bool, (b = 0) = (c = false) := by
      by_cases h : b = 0
      · exact ⟨false, by rw [h]; simp⟩
      · exact ⟨true, by simp [h]⟩
    obtain ⟨x1, x2⟩ := x_setAway h3 h7.1 (p := p) (by omega) hc
    obtain ⟨m1, m2⟩ := m_goes h5 h7.1 (p := p) (by omega) hc
    rw [e1, e2, Option.bind_some, Option.bind_some, if_neg one_ne, if_neg one_ne, x_isAway h3 h7.1 (by omega), Option.bind_some, h5.2.2.2.1, bit_M _ h7.1.2.2.2.1 _ (by omega), Option.bind_some]
    simp only [jn_e]
    rw [x1, m1, Option.bind_some, Option.bind_some]
    have haw : (σ 0 3).testBit p = aw σ p := rfl
    rw [haw, ite_b0, ite_b0]
    have key : Inv (up2 μ 40 7 (nI (mset (σ 0 3) p c))) ν (up2 μ' 0 1 (nI (mset (σ 0 3) p c))) ν' := by
      refine Inv.now (σ := awset σ p c) h1 h2 h8 h9 h10 h11 h12 (Off.up Off.rf (by omega) (by omega)) (MN.up MN.rf (by omega)) ⟨x2, ?_, m2, ?_, ⟨BW_awset h7.1 (by omega), h7.2.1, h7.2.2.1, h7.2.2.2.1, h7.2.2.2.2⟩⟩
      · have := h4
        unfold SX at this ⊢
        simp (disch := omega) only [u_nc, u_nj]
        exact this
      · have := h6
        unfold MX at this ⊢
        simp (disch := omega) only [u_nc, u_nj]
        exact this
    cases aw σ p
    · exact ⟨0, _, _, rfl, rfl, key⟩
    · exact ⟨1, _, _, rfl, rfl, key⟩
  · rw [e1, e2, Option.bind_some, Option.bind_some, if_pos rfl, if_pos rfl]
    exact ⟨_, _, _, rfl, rfl, I⟩
end CMD
