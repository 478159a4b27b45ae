/-! what changes the reference's room -/
theorem MR_row3 {σ : Sg} {μ μ' : Mm} {f : Nat → Nat} (S : MR σ μ) (h3 : ∀ p, p < 6 → μ' 6 p = nI (f p)) (ho : ∀ c, c ≠ 6 → μ' c = μ c) : MR (row σ 3 f) μ' := by
  obtain ⟨s1, s2, s3, s4, s5, s6, s7, s8, s9⟩ := S
  unfold MR
  rw [ho 0 (by omega), ho 4 (by omega), ho 5 (by omega), ho 7 (by omega), ho 8 (by omega)]
  exact ⟨s1, s2, s3, s4, s5, s6, h3, s8, s9⟩
theorem MR_row4 {σ : Sg} {μ μ' : Mm} {f : Nat → Nat} (S : MR σ μ) (h3 : ∀ p, p < 6 → μ' 7 p = nI (f p)) (ho : ∀ c, c ≠ 7 → μ' c = μ c) : MR (row σ 4 f) μ' := by
  obtain ⟨s1, s2, s3, s4, s5, s6, s7, s8, s9⟩ := S
  unfold MR
  rw [ho 0 (by omega), ho 4 (by omega), ho 5 (by omega), ho 6 (by omega), ho 8 (by omega)]
  exact ⟨s1, s2, s3, s4, s5, s6, s7, h3, s9⟩
theorem MR_wear {σ : Sg} {μ : Mm} {v : Nat} (S : MR σ μ) : MR (ups σ 0 2 v) (up2 μ 0 2 (nI v)) := by
  obtain ⟨s1, s2, s3, s4, s5, s6, s7, s8, s9⟩ := S
  unfold MR
  rw [u_eq rfl rfl, u_nj (by omega), u_nj (by omega), u_nj (by omega), u_cf (by omega), u_cf (by omega), u_cf (by omega), u_cf (by omega), u_cf (by omega)]
  exact ⟨s1, s2, rfl, s4, s5, s6, s7, s8, s9⟩
theorem MR_week {σ : Sg} {μ : Mm} {v : Nat} (S : MR σ μ) : MR (ups σ 0 1 v) (up2 μ 0 3 (nI v)) := by
  obtain ⟨s1, s2, s3, s4, s5, s6, s7, s8, s9⟩ := S
  unfold MR
  rw [u_eq rfl rfl, u_nj (by omega), u_nj (by omega), u_nj (by omega), u_cf (by omega), u_cf (by omega), u_cf (by omega), u_cf (by omega), u_cf (by omega)]
  exact ⟨s1, rfl, s3, s4, s5, s6, s7, s8, s9⟩
theorem MR_mask {σ : Sg} {μ : Mm} {v : Nat} (S : MR σ μ) : MR (ups σ 0 3 v) (up2 μ 0 1 (nI v)) := by
  obtain ⟨s1, s2, s3, s4, s5, s6, s7, s8, s9⟩ := S
  unfold MR
  rw [u_eq rfl rfl, u_nj (by omega), u_nj (by omega), u_nj (by omega), u_cf (by omega), u_cf (by omega), u_cf (by omega), u_cf (by omega), u_cf (by omega)]
  exact ⟨s1, s2, s3, rfl, s5, s6, s7, s8, s9⟩
theorem MR_slot {σ : Sg} {μ : Mm} {j : Nat} {x : Int32} (S : MR σ μ) (hj : 4 ≤ j) : MR σ (up2 μ 0 j x) := by
  unfold MR
  rw [u_nj (by omega), u_nj (by omega), u_nj (by omega), u_nj (by omega), u_cf (by omega), u_cf (by omega), u_cf (by omega), u_cf (by omega), u_cf (by omega)]
  exact S
theorem MR_cell {σ : Sg} {μ : Mm} {c j : Nat} {x : Int32} (S : MR σ μ) (hc : 9 ≤ c) : MR σ (up2 μ c j x) := by
  unfold MR
  rw [u_cf (by omega), u_cf (by omega), u_cf (by omega), u_cf (by omega), u_cf (by omega), u_cf (by omega)]
  exact S
theorem MK_up {rs : Rsp} {μ : Mm} {c j : Nat} {x : Int32} (K : MK rs μ) (h : c < 15 ∨ 20 < c) (h2 : c ≠ 0 ∨ j ≠ 10) : MK rs (up2 μ c j x) := K.mv (by
  rcases h2 with h2 | h2
  · rw [u_nc (by omega)]
  · rw [u_nj (by omega)]) (fun d a b => u_cf (by omega))
section MO
variable {rs : Rsp} {σ : Sg} {μ : Mm}
theorem m_alL (S : MR σ μ) (K : MK rs μ) (O : MO rs σ) (B : BW σ) {z : Nat} (hz : z < 1000000) (k : Int32 → Option (Int32 × Mm)) : ∀ d j, j + d = σ 0 0 → ∀ n, d < n → ∀ y x, x = nI j → y = nI (sm (fun p => ln σ p z) j) → L_M_allLearn_9 (nI z) μ k n y x = k (nI (lns σ z)) := by
  have h6 := B.1
  intro d
  induction d with
  | zero =>
    intro j hj n hn y x hx hy
    subst hx; subst hy
    obtain ⟨m, rfl⟩ : ∃ m, n = m + 1 := ⟨n - 1, by omega⟩
    rw [L_M_allLearn_9, S.1, ite_le (by omega) (by omega), if_pos (by omega), show j = σ 0 0 by omega]
    rfl
  | succ d ih =>
    intro j hj n hn y x hx hy
    subst hx; subst hy
    obtain ⟨m, rfl⟩ : ∃ m, n = m + 1 := ⟨n - 1, by omega⟩
    rw [L_M_allLearn_9, S.1, ite_le (by omega) (by omega), if_neg (by omega), m_learnsBy S K O B (by omega) hz, Option.bind_some, nI_add, nI_1]
    exact ih (j + 1) (by omega) m (by omega) _ _ rfl rfl
theorem m_allLearn (S : MR σ μ) (K : MK rs μ) (O : MO rs σ) (B : BW σ) : ∃ μ', F_M_allLearn μ = some (nI (lns σ (ns σ 0)), μ') ∧ P26 μ μ' := by
  obtain ⟨μ', e1, e2⟩ := m_noise S K O B
  refine ⟨μ', ?_, e2⟩
  unfold F_M_allLearn
  rw [e1, Option.bind_some]
  exact m_alL (S.p26 e2) (K.p26 e2) O B (by have := ns_le B 0; omega) _ (σ 0 0) 0 (by omega) fu (fu_gt (by have := B.1; omega)) 0 0 rfl rfl
theorem m_akL (S : MR σ μ) (B : BW σ) (k : Int32 → Option Int32) : ∀ d j, j + d = σ 0 0 → ∀ n, d < n → ∀ y x, x = nI j → y = nI (sm (fun p => σ 4 p) j) → L_M_allKnow_4 μ k n y x = k (nI (kns σ)) := by
  have h6 := B.1
  intro d
  induction d with
  | zero =>
    intro j hj n hn y x hx hy
    subst hx; subst hy
    obtain ⟨m, rfl⟩ : ∃ m, n = m + 1 := ⟨n - 1, by omega⟩
    rw [L_M_allKnow_4, S.1, ite_le (by omega) (by omega), if_pos (by omega), show j = σ 0 0 by omega]
    rfl
  | succ d ih =>
    intro j hj n hn y x hx hy
    subst hx; subst hy
    obtain ⟨m, rfl⟩ : ∃ m, n = m + 1 := ⟨n - 1, by omega⟩
    rw [L_M_allKnow_4, S.1, ite_le (by omega) (by omega), if_neg (by omega), rdI_nI (by omega) (by omega), S.2.2.2.2.2.2.2.1 j (by omega), Option.bind_some, nI_add, nI_1]
    exact ih (j + 1) (by omega) m (by omega) _ _ rfl rfl
theorem m_kns (S : MR σ μ) (B : BW σ) : F_M_allKnow μ = some (nI (kns σ)) := m_akL S B _ (σ 0 0) 0 (by omega) fu (fu_gt (by have := B.1; omega)) 0 0 rfl rfl
/-- who has a desk, as the reference tells it -/
def whM (o : Option Nat) : Int32 := match o with
  | some p => nI p
  | none => -5
theorem m_whL (S : MR σ μ) (B : BW σ) {e : Nat} (he : e ≤ 5) : ∀ d j, j + d = σ 0 0 → ∀ n, d < n → ∀ x, x = nI j → L_M_whoHas_2 (nI e) μ (fun _ => some (-5)) n x = some (whM (whf σ e d j)) := by
  have h6 := B.1
  intro d
  induction d with
  | zero =>
    intro j hj n hn x hx
    subst hx
    obtain ⟨m, rfl⟩ : ∃ m, n = m + 1 := ⟨n - 1, by omega⟩
    rw [L_M_whoHas_2, S.1, ite_le (by omega) (by omega), if_pos (by omega)]
    rfl
  | succ d ih =>
    intro j hj n hn x hx
    subst hx
    obtain ⟨m, rfl⟩ : ∃ m, n = m + 1 := ⟨n - 1, by omega⟩
    have hd := B.2.2.2.2.2.2.2.2.1 j
    rw [L_M_whoHas_2, S.1, ite_le (by omega) (by omega), if_neg (by omega), rdI_nI (by omega) (by omega), S.2.2.2.2.2.2.1 j (by omega), Option.bind_some, ite_eq (by omega) (by omega), nI_1]
    show (if σ 3 j = e then _ else _) = some (whM (if σ 3 j = e then some j else whf σ e d (j + 1)))
    by_cases h : σ 3 j = e
    · rw [if_pos h, if_pos h]
      rfl
    · rw [if_neg h, if_neg h]
      exact ih (j + 1) (by omega) m (by omega) _ rfl
theorem m_wh (S : MR σ μ) (B : BW σ) {e : Nat} (he : e ≤ 5) : F_M_whoHas (nI e) μ = some (whM (wh σ e)) := m_whL S B he (σ 0 0) 0 (by omega) fu (fu_gt (by have := B.1; omega)) 0 rfl
theorem m_sits (S : MR σ μ) (B : BW σ) {p e : Nat} (hp : p < 6) (he : e ≤ 5) : ∃ μ', F_M_takesDesk (nI p) (nI e) μ = some μ' ∧ MR (sits σ p e) μ' ∧ ∀ c, c ≠ 6 → μ' c = μ c := by
  have hs3 := S.2.2.2.2.2.2.1
  unfold F_M_takesDesk
  rw [m_wh S B he, Option.bind_some]
  simp only [jn_e]
  cases hw : wh σ e with
  | none =>
    have h1 : whM none < 0 := by decide
    rw [if_pos h1, wrI_nI hp (by omega), Option.bind_some]
    refine ⟨_, rfl, MR_row3 S (fun j hj => ?_) (fun c hc => u_cf hc), fun c hc => u_cf hc⟩
    unfold sitsF
    rw [hw]
    by_cases h : j = p
    · rw [if_pos h, u_eq rfl h]
    · rw [if_neg h, u_nj h]
      exact hs3 j hj
  | some q =>
    have hq := (wh_some hw).1
    have h6 := B.1
    have h1 : ¬ whM (some q) < 0 := nn_not_neg (by omega)
    have e1 : whM (some q) = nI q := rfl
    rw [if_neg h1, rdI_nI hp (by omega), Option.bind_some, e1, wrI_nI (by omega) (by omega), Option.bind_some, wrI_nI hp (by omega), Option.bind_some]
    refine ⟨_, rfl, MR_row3 S (fun j hj => ?_) (fun c hc => by rw [u_cf hc, u_cf hc]), fun c hc => by rw [u_cf hc, u_cf hc]⟩
    unfold sitsF
    rw [hw]
    by_cases h : j = p
    · rw [if_pos h, u_eq rfl h]
    · rw [if_neg h, u_nj h]
      show _ = nI (if j = q then σ 3 p else σ 3 j)
      by_cases h2 : j = q
      · rw [if_pos h2, u_eq rfl h2]
        exact hs3 p hp
      · rw [if_neg h2, u_nj h2]
        exact hs3 j hj
theorem m_moves (S : MR σ μ) (B : BW σ) {p e : Nat} (hp : p < 6) (he : e ≤ 5) : ∃ μ', F_M_moves (nI p) (nI e) μ = some μ' ∧ MR (moves σ p e) μ' ∧ (∀ c, c ≠ 6 → c ≠ 0 → μ' c = μ c) ∧ ∀ j, j ≠ 2 → μ' 0 j = μ 0 j := by
  obtain ⟨μ1, e1, S1, o1⟩ := m_sits S B hp he
  unfold F_M_moves
  rw [e1, Option.bind_some]
  simp only [lt_e]
  refine ⟨_, rfl, MR_wear (v := 0) S1, fun c hc hb => by rw [u_cf hb]; exact o1 c hc, fun j hj => by rw [u_nj hj, o1 0 (by omega)]⟩
theorem m_goes (S : MR σ μ) (B : BW σ) {p : Nat} (hp : p < 6) {a : Int32} {c : Bool} (ha : (a = 0) = (c = false)) : F_M_goes (nI p) a μ = some (up2 μ 0 1 (nI (mset (σ 0 3) p c))) ∧ MR (awset σ p c) (up2 μ 0 1 (nI (mset (σ 0 3) p c))) := by
  refine ⟨?_, MR_mask S⟩
  unfold F_M_goes
  simp only [jn_e, lt_e]
  rw [S.2.2.2.1, mset_1 _ B.2.2.2.1 _ hp, mset_0 _ B.2.2.2.1 _ hp]
  cases c
  · rw [if_pos (ha.mpr rfl)]
  · rw [if_neg (fun h => by have := ha.mp h; cases this)]
theorem m_least {x y : Nat} (hx : x < 2147483648) (hy : y < 2147483648) : F_M_least (nI x) (nI y) = some (nI (min y x)) := by
  unfold F_M_least
  rw [ite_le hy hx]
  by_cases h : y ≤ x
  · rw [if_pos h, Nat.min_eq_left h]
  · rw [if_neg h, Nat.min_eq_right (by omega)]
theorem m_wkL {M : Nat} (hM : M < 2147483648) (O : MO rs σ) (B : BW σ) (hk : ∀ p, σ 4 p ≤ 99999990) {z : Nat} (hz : z < 1000000) (k : Mm → Option Mm) : ∀ d j, j + d = σ 0 0 → ∀ n, d < n → ∀ x, x = nI j → ∀ μ, MR (row σ 4 (kfN M σ z j)) μ → MK rs μ → μ 0 27 = nI M → ∃ μ', L_M_goWeek_7 (nI z) k n x μ = k μ' ∧ MR (row σ 4 (kfN M σ z (σ 0 0))) μ' ∧ ∀ c, c ≠ 7 → μ' c = μ c := by
  have h6 := B.1
  intro d
  induction d with
  | zero =>
    intro j hj n hn x hx μ S K hm
    subst hx
    obtain ⟨n', rfl⟩ : ∃ m, n = m + 1 := ⟨n - 1, by omega⟩
    have hj0 : j = σ 0 0 := by omega
    rw [hj0] at S
    refine ⟨μ, ?_, S, fun _ _ => rfl⟩
    have s1 : μ 0 0 = nI (σ 0 0) := S.1
    rw [L_M_goWeek_7, s1, ite_le (by omega) (by omega), if_pos (by omega)]
  | succ d ih =>
    intro j hj n hn x hx μ S K hm
    subst hx
    obtain ⟨n', rfl⟩ : ∃ m, n = m + 1 := ⟨n - 1, by omega⟩
    have s1 : μ 0 0 = nI (σ 0 0) := S.1
    have s4 : μ 7 j = nI (σ 4 j) := by
      have := S.2.2.2.2.2.2.2.1 j (by omega)
      have e : row σ 4 (kfN M σ z j) 4 j = σ 4 j := by
        show kfN M σ z j j = σ 4 j
        unfold kfN
        rw [if_neg (by omega)]
      rw [e] at this
      exact this
    have B' : BW (row σ 4 (kfN M σ z j)) := BW_row4 B (kfN_le B hk)
    have hl : F_M_learnsBy (nI j) (nI z) μ = some (nI (ln σ j z)) := m_learnsBy S K O B' (by omega) hz
    have hkj := hk j
    have hlj := ln_le σ j z
    have hmn : min M (σ 4 j + ln σ j z) ≤ σ 4 j + ln σ j z := Nat.min_le_right _ _
    obtain ⟨μ', e1, e2, e3⟩ := ih (j + 1) (by omega) n' (by omega) _ rfl (up2 μ 7 j (nI (min M (σ 4 j + ln σ j z)))) (by
      have h := MR_row4 (f := kfN M σ z (j + 1)) S (μ' := up2 μ 7 j (nI (min M (σ 4 j + ln σ j z)))) (fun p hp => ?_) (fun c hc => u_cf hc)
      · rw [row_row] at h
        exact h
      · by_cases h : p = j
        · rw [u_eq rfl h]
          unfold kfN
          rw [if_pos (by omega), h]
        · rw [u_nj h]
          have := S.2.2.2.2.2.2.2.1 p hp
          rw [this]
          show nI (kfN M σ z j p) = _
          unfold kfN
          by_cases h2 : p < j
          · rw [if_pos h2, if_pos (by omega)]
          · rw [if_neg h2, if_neg (by omega)]) (MK_up K (by omega) (by omega)) (by rw [u_nc (by omega)]; exact hm)
    refine ⟨μ', ?_, e2, fun c hc => by rw [e3 c hc, u_cf hc]⟩
    rw [L_M_goWeek_7, s1, ite_le (by omega) (by omega), if_neg (by omega), rdI_nI (by omega) (by omega), Option.bind_some, s4, hl, Option.bind_some, nI_add, hm, m_least (by omega) hM, Option.bind_some, wrI_nI (by omega) (by omega), Option.bind_some, nI_1]
    exact e1
theorem kf_0 {M : Nat} {z : Nat} : row σ 4 (kfN M σ z 0) = σ := by
  funext a
  by_cases ha : a = 4
  · subst ha
    funext p
    show kfN M σ z 0 p = σ 4 p
    unfold kfN
    rw [if_neg (by omega)]
  · show (if a = 4 then _ else σ a) = σ a
    rw [if_neg ha]
theorem m_wk {M : Nat} (hM : M < 2147483648) (S : MR σ μ) (K : MK rs μ) (O : MO rs σ) (B : BW σ) (hk : ∀ p, σ 4 p ≤ 99999990) (hm : μ 0 27 = nI M) : ∃ μ', F_M_goWeek μ = some μ' ∧ MR (wk M σ) μ' ∧ (∀ c, c ≠ 7 → c ≠ 0 → c ≠ 26 → μ' c = μ c) ∧ ∀ j, j ≠ 2 → j ≠ 3 → μ' 0 j = μ 0 j := by
  have hz : ns σ 0 < 1000000 := by have := ns_le B 0; omega
  obtain ⟨μ0, e0, p0⟩ := m_noise S K O B
  unfold F_M_goWeek
  rw [e0, Option.bind_some]
  obtain ⟨μ1, e1, S1, o1⟩ := m_wkL (rs := rs) hM O B hk hz (fun (μ13 : Mm) => (F_M_least ((μ13 0 2) + 1) 99).bind fun v14 => lt_ (up2 μ13 0 2 v14) fun μ16 => lt_ (up2 μ16 0 3 ((μ16 0 3) + 1)) fun μ17 => some μ17) (σ 0 0) 0 (by omega) fu (fu_gt (by have := B.1; omega)) 0 rfl μ0 (by rw [kf_0]; exact S.p26 p0) (K.p26 p0) (by rw [p0 0 (by omega)]; exact hm)
  show ∃ μ', L_M_goWeek_7 (nI (ns σ 0)) (fun (μ13 : Mm) => (F_M_least ((μ13 0 2) + 1) 99).bind fun v14 => lt_ (up2 μ13 0 2 v14) fun μ16 => lt_ (up2 μ16 0 3 ((μ16 0 3) + 1)) fun μ17 => some μ17) fu 0 μ0 = some μ' ∧ _
  rw [e1]
  simp only [lt_e]
  have s3 : μ1 0 2 = nI (σ 0 2) := S1.2.2.1
  have s2 : μ1 0 3 = nI (σ 0 1) := S1.2.1
  have hw := B.2.2.1
  have hwk := B.2.1
  rw [s3, nI_1, q99, m_least (by omega) (by omega), Option.bind_some]
  refine ⟨_, rfl, ?_, fun c h7 h0 h26 => by rw [u_cf h0, u_cf h0, o1 c h7, p0 c h26], fun j h2 h3 => by rw [u_nj h3, u_nj h2, o1 0 (by omega), p0 0 (by omega)]⟩
  rw [u_nj (by omega), s2, nI_1]
  exact MR_week (MR_wear S1)
/-! what is saved and put back -/
def Kpt (σ : Sg) (μ : Mm) : Prop := μ 0 28 = nI (σ 0 3) ∧ μ 0 29 = nI (σ 0 2) ∧ μ 0 30 = nI (σ 0 1) ∧ (∀ p, p < 6 → μ 31 p = nI (σ 3 p)) ∧ ∀ p, p < 6 → μ 32 p = nI (σ 4 p)
theorem m_saveL (k : Mm → Option Mm) : ∀ d j, j + d = 6 → ∀ n, d < n → ∀ x, x = nI j → ∀ μ : Mm, ∃ μ', L_M_save_33 k n x μ = k μ' ∧ (∀ p, j ≤ p → p < 6 → μ' 31 p = μ 6 p ∧ μ' 32 p = μ 7 p) ∧ (∀ p, p < j → μ' 31 p = μ 31 p ∧ μ' 32 p = μ 32 p) ∧ ∀ c, c ≠ 31 → c ≠ 32 → μ' c = μ c := by
  intro d
  induction d with
  | zero =>
    intro j hj n hn x hx μ
    subst hx
    obtain ⟨n', rfl⟩ : ∃ m, n = m + 1 := ⟨n - 1, by omega⟩
    refine ⟨μ, ?_, fun p h1 h2 => by omega, fun p _ => ⟨rfl, rfl⟩, fun _ _ _ => rfl⟩
    rw [L_M_save_33, q6, ite_le (by omega) (by omega), if_pos (by omega)]
  | succ d ih =>
    intro j hj n hn x hx μ
    subst hx
    obtain ⟨n', rfl⟩ : ∃ m, n = m + 1 := ⟨n - 1, by omega⟩
    obtain ⟨μ', e1, e2, e3, e4⟩ := ih (j + 1) (by omega) n' (by omega) _ rfl (up2 (up2 μ 31 j (μ 6 j)) 32 j (μ 7 j))
    refine ⟨μ', ?_, fun p h1 h2 => ?_, fun p hp => ?_, fun c h1 h2 => by rw [e4 c h1 h2, u_cf h2, u_cf h1]⟩
    · rw [L_M_save_33, q6, ite_le (by omega) (by omega), if_neg (by omega), rdI_nI (by omega) (by omega), Option.bind_some, wrI_nI (by omega) (by omega), Option.bind_some, u_cf (by omega), rdI_nI (by omega) (by omega), Option.bind_some, wrI_nI (by omega) (by omega), Option.bind_some, nI_1]
      exact e1
    · by_cases h : p = j
      · rw [(e3 p (by omega)).1, (e3 p (by omega)).2, h, u_nc (by omega), u_eq rfl rfl, u_eq rfl rfl]
        exact ⟨rfl, rfl⟩
      · have := e2 p (by omega) h2
        rw [this.1, this.2]
        simp (disch := omega) only [u_nc]
        exact ⟨trivial, trivial⟩
    · rw [(e3 p (by omega)).1, (e3 p (by omega)).2]
      simp (disch := omega) only [u_nc, u_nj]
      exact ⟨trivial, trivial⟩
theorem m_save (S : MR σ μ) : ∃ μ', F_M_save μ = some μ' ∧ MR σ μ' ∧ Kpt σ μ' ∧ μ' 0 27 = nI 2000000000 ∧ (∀ c, c ≠ 0 → c ≠ 31 → c ≠ 32 → μ' c = μ c) ∧ ∀ j, j < 27 ∨ 30 < j → μ' 0 j = μ 0 j := by
  unfold F_M_save
  simp only [lt_e]
  have hN := fu_gt (n := 6) (Nat.le_of_ble_eq_true rfl)
  generalize fu = N at hN ⊢
  obtain ⟨μ', e1, e2, e3, e4⟩ := m_saveL (fun (μ11 : Mm) => some μ11) 6 0 (by omega) N hN 0 rfl (up2 (up2 (up2 (up2 μ 0 27 (2000000000)) 0 28 ((up2 μ 0 27 (2000000000)) 0 1)) 0 29 ((up2 (up2 μ 0 27 (2000000000)) 0 28 ((up2 μ 0 27 (2000000000)) 0 1)) 0 2)) 0 30 ((up2 (up2 (up2 μ 0 27 (2000000000)) 0 28 ((up2 μ 0 27 (2000000000)) 0 1)) 0 29 ((up2 (up2 μ 0 27 (2000000000)) 0 28 ((up2 μ 0 27 (2000000000)) 0 1)) 0 2)) 0 3))
  refine ⟨μ', e1, ?_, ⟨?_, ?_, ?_, fun p hp => ?_, fun p hp => ?_⟩, ?_, fun c h0 h1 h2 => ?_, fun j hj => ?_⟩
  · unfold MR
    rw [e4 0 (by omega) (by omega), e4 4 (by omega) (by omega), e4 5 (by omega) (by omega), e4 6 (by omega) (by omega), e4 7 (by omega) (by omega), e4 8 (by omega) (by omega)]
    exact MR_slot (MR_slot (MR_slot (MR_slot S (by omega)) (by omega)) (by omega)) (by omega)
  · rw [e4 0 (by omega) (by omega)]
    simp (disch := omega) only [u_nj, u_eq]
    exact S.2.2.2.1
  · rw [e4 0 (by omega) (by omega)]
    simp (disch := omega) only [u_nj, u_eq]
    exact S.2.2.1
  · rw [e4 0 (by omega) (by omega)]
    simp (disch := omega) only [u_nj, u_eq]
    exact S.2.1
  · rw [(e2 p (by omega) hp).1]
    simp (disch := omega) only [u_nc]
    exact S.2.2.2.2.2.2.1 p hp
  · rw [(e2 p (by omega) hp).2]
    simp (disch := omega) only [u_nc]
    exact S.2.2.2.2.2.2.2.1 p hp
  · rw [e4 0 (by omega) (by omega)]
    simp (disch := omega) only [u_nj, u_eq]
    rfl
  · rw [e4 c h1 h2, u_cf h0, u_cf h0, u_cf h0, u_cf h0]
  · rw [e4 0 (by omega) (by omega), u_nj (by omega), u_nj (by omega), u_nj (by omega), u_nj (by omega)]
theorem m_backL (k : Mm → Option Mm) : ∀ d j, j + d = 6 → ∀ n, d < n → ∀ x, x = nI j → ∀ μ : Mm, ∃ μ', L_M_putBack_33 k n x μ = k μ' ∧ (∀ p, j ≤ p → p < 6 → μ' 6 p = μ 31 p ∧ μ' 7 p = μ 32 p) ∧ (∀ p, p < j → μ' 6 p = μ 6 p ∧ μ' 7 p = μ 7 p) ∧ ∀ c, c ≠ 6 → c ≠ 7 → μ' c = μ c := by
  intro d
  induction d with
  | zero =>
    intro j hj n hn x hx μ
    subst hx
    obtain ⟨n', rfl⟩ : ∃ m, n = m + 1 := ⟨n - 1, by omega⟩
    refine ⟨μ, ?_, fun p h1 h2 => by omega, fun p _ => ⟨rfl, rfl⟩, fun _ _ _ => rfl⟩
    rw [L_M_putBack_33, q6, ite_le (by omega) (by omega), if_pos (by omega)]
  | succ d ih =>
    intro j hj n hn x hx μ
    subst hx
    obtain ⟨n', rfl⟩ : ∃ m, n = m + 1 := ⟨n - 1, by omega⟩
    obtain ⟨μ', e1, e2, e3, e4⟩ := ih (j + 1) (by omega) n' (by omega) _ rfl (up2 (up2 μ 6 j (μ 31 j)) 7 j (μ 32 j))
    refine ⟨μ', ?_, fun p h1 h2 => ?_, fun p hp => ?_, fun c h1 h2 => by rw [e4 c h1 h2, u_cf h2, u_cf h1]⟩
    · rw [L_M_putBack_33, q6, ite_le (by omega) (by omega), if_neg (by omega), rdI_nI (by omega) (by omega), Option.bind_some, wrI_nI (by omega) (by omega), Option.bind_some, u_cf (by omega), rdI_nI (by omega) (by omega), Option.bind_some, wrI_nI (by omega) (by omega), Option.bind_some, nI_1]
      exact e1
    · by_cases h : p = j
      · rw [(e3 p (by omega)).1, (e3 p (by omega)).2, h, u_nc (by omega), u_eq rfl rfl, u_eq rfl rfl]
        exact ⟨rfl, rfl⟩
      · have := e2 p (by omega) h2
        rw [this.1, this.2]
        simp (disch := omega) only [u_nc]
        exact ⟨trivial, trivial⟩
    · rw [(e3 p (by omega)).1, (e3 p (by omega)).2]
      simp (disch := omega) only [u_nc, u_nj]
      exact ⟨trivial, trivial⟩
/-- what is asked leaves: the room with other weeks, desks, knowledge and absence, and all that was saved -/
def BR (σ : Sg) (μ : Mm) : Prop := μ 0 0 = nI (σ 0 0) ∧ (∀ p, p < 6 → μ 4 p = nI (σ 1 p)) ∧ (∀ p, p < 6 → μ 5 p = nI (σ 2 p)) ∧ ∀ i, i < 24 → μ 8 i = nI (σ 5 i)
theorem m_back (S : BR σ μ) (Kp : Kpt σ μ) : ∃ μ', F_M_putBack μ = some μ' ∧ MR σ μ' ∧ μ' 0 27 = nI 9999 ∧ (∀ c, c ≠ 0 → c ≠ 6 → c ≠ 7 → μ' c = μ c) ∧ ∀ j, (j = 0 ∨ 3 < j) → j ≠ 27 → μ' 0 j = μ 0 j := by
  unfold F_M_putBack
  simp only [lt_e]
  have hN := fu_gt (n := 6) (Nat.le_of_ble_eq_true rfl)
  generalize fu = N at hN ⊢
  obtain ⟨μ', e1, e2, e3, e4⟩ := m_backL (fun (μ11 : Mm) => some μ11) 6 0 (by omega) N hN 0 rfl (up2 (up2 (up2 (up2 μ 0 27 9999) 0 1 ((up2 μ 0 27 9999) 0 28)) 0 2 ((up2 (up2 μ 0 27 9999) 0 1 ((up2 μ 0 27 9999) 0 28)) 0 29)) 0 3 ((up2 (up2 (up2 μ 0 27 9999) 0 1 ((up2 μ 0 27 9999) 0 28)) 0 2 ((up2 (up2 μ 0 27 9999) 0 1 ((up2 μ 0 27 9999) 0 28)) 0 29)) 0 30))
  refine ⟨μ', e1, ⟨?_, ?_, ?_, ?_, fun p hp => ?_, fun p hp => ?_, fun p hp => ?_, fun p hp => ?_, fun i hi => ?_⟩, ?_, fun c h0 h1 h2 => ?_, fun j hj h27 => ?_⟩
  · rw [e4 0 (by omega) (by omega)]
    simp (disch := omega) only [u_nj, u_eq]
    exact S.1
  · rw [e4 0 (by omega) (by omega)]
    simp (disch := omega) only [u_nj, u_eq]
    exact Kp.2.2.1
  · rw [e4 0 (by omega) (by omega)]
    simp (disch := omega) only [u_nj, u_eq]
    exact Kp.2.1
  · rw [e4 0 (by omega) (by omega)]
    simp (disch := omega) only [u_nj, u_eq]
    exact Kp.1
  · rw [e4 4 (by omega) (by omega)]
    simp (disch := omega) only [u_nc]
    exact S.2.1 p hp
  · rw [e4 5 (by omega) (by omega)]
    simp (disch := omega) only [u_nc]
    exact S.2.2.1 p hp
  · rw [(e2 p (by omega) hp).1]
    simp (disch := omega) only [u_nc]
    exact Kp.2.2.2.1 p hp
  · rw [(e2 p (by omega) hp).2]
    simp (disch := omega) only [u_nc]
    exact Kp.2.2.2.2 p hp
  · rw [e4 8 (by omega) (by omega)]
    simp (disch := omega) only [u_nc]
    exact S.2.2.2 i hi
  · rw [e4 0 (by omega) (by omega)]
    simp (disch := omega) only [u_nj, u_eq]
    rfl
  · rw [e4 c h1 h2, u_cf h0, u_cf h0, u_cf h0, u_cf h0]
  · rw [e4 0 (by omega) (by omega), u_nj (by omega), u_nj (by omega), u_nj (by omega), u_nj (by omega)]
end MO
