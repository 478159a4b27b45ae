/-! the reference's room -/
/-- what a room says: how soon a plan wears out, what noise costs, how one mouths (pupil, desk, kind, v) -/
abbrev Rsp : Type := Nat × Nat × (Nat → Nat → Nat → Nat → Nat)
def P26 (μ μ' : Mm) : Prop := ∀ c, c ≠ 26 → μ' c = μ c
theorem P26.rf {μ : Mm} : P26 μ μ := fun _ _ => rfl
theorem P26.tr {μ μ1 μ2 : Mm} (h1 : P26 μ μ1) (h2 : P26 μ1 μ2) : P26 μ μ2 := fun c h => (h2 c h).trans (h1 c h)
def MR (σ : Sg) (μ : Mm) : Prop := μ 0 0 = nI (σ 0 0) ∧ μ 0 3 = nI (σ 0 1) ∧ μ 0 2 = nI (σ 0 2) ∧ μ 0 1 = nI (σ 0 3) ∧ (∀ p, p < 6 → μ 4 p = nI (σ 1 p)) ∧ (∀ p, p < 6 → μ 5 p = nI (σ 2 p)) ∧ (∀ p, p < 6 → μ 6 p = nI (σ 3 p)) ∧ (∀ p, p < 6 → μ 7 p = nI (σ 4 p)) ∧ (∀ i, i < 24 → μ 8 i = nI (σ 5 i))
/-- the tables of the room that holds say rs -/
def MK (rs : Rsp) (μ : Mm) : Prop := ∀ μ' : Mm, μ' 0 10 = μ 0 10 → (∀ c, 15 ≤ c → c ≤ 20 → μ' c = μ c) → F_M_wears μ' = some (nI rs.1) ∧ F_M_cost μ' = some (nI rs.2.1) ∧ ∀ p d kd v, p < 6 → d < 6 → kd ≤ 6 → v ≤ 9 → μ' 4 p = nI kd → μ' 5 p = nI v → ∃ μ'', F_M_mouth (nI p) (nI d) μ' = some (nI (rs.2.2 p d kd v), μ'') ∧ P26 μ' μ''
/-- σ goes by rs -/
def MO (rs : Rsp) (σ : Sg) : Prop := σ 0 4 = rs.1 ∧ σ 0 5 = rs.2.1 ∧ ∀ p d, p < σ 0 0 → d < 6 → σ 6 (p * 6 + d) = rs.2.2 p d (σ 1 p) (σ 2 p)
theorem MR.p26 {σ : Sg} {μ μ' : Mm} (h : MR σ μ) (hp : P26 μ μ') : MR σ μ' := by
  unfold MR
  rw [hp 0 (by omega), hp 4 (by omega), hp 5 (by omega), hp 6 (by omega), hp 7 (by omega), hp 8 (by omega)]
  exact h
theorem MK.mv {rs : Rsp} {μ μ1 : Mm} (h : MK rs μ) (h0 : μ1 0 10 = μ 0 10) (h1 : ∀ c, 15 ≤ c → c ≤ 20 → μ1 c = μ c) : MK rs μ1 := fun μ' a b => h μ' (a.trans h0) (fun c x y => (b c x y).trans (h1 c x y))
theorem MK.p26 {rs : Rsp} {μ μ1 : Mm} (h : MK rs μ) (hp : P26 μ μ1) : MK rs μ1 := h.mv (by rw [hp 0 (by omega)]) (fun c a b => hp c (by omega))
theorem many_64 : ∀ m, m < 64 → F_M_many (nI m) = some (nI (pop m)) := by decide +kernel
section MB
variable {rs : Rsp} {σ : Sg} {μ : Mm}
theorem m_besL (S : MR σ μ) (B : BW σ) {p : Nat} (hp : p < 6) : ∀ d j, j + d = σ 0 0 → ∀ n, d < n → ∀ y x, x = nI j → y = nI (pm (nb σ p) j) → L_M_beside_4 (nI p) μ (fun x => some x) n y x = some (nI (pm (nb σ p) (σ 0 0))) := by
  have h6 := B.1
  intro d
  induction d with
  | zero =>
    intro j hj n hn y x hx hy
    subst hx; subst hy
    obtain ⟨m, rfl⟩ : ∃ m, n = m + 1 := ⟨n - 1, by omega⟩
    rw [L_M_beside_4, S.1, ite_le (by omega) (by omega), if_pos (by omega), show j = σ 0 0 by omega]
  | succ d ih =>
    intro j hj n hn y x hx hy
    subst hx; subst hy
    obtain ⟨m, rfl⟩ : ∃ m, n = m + 1 := ⟨n - 1, by omega⟩
    have hd1 := B.2.2.2.2.2.2.2.2.1 p
    have hd2 := B.2.2.2.2.2.2.2.2.1 j
    have hlt := pm_lt (nb σ p) j
    have h64 : 2 ^ j ≤ 2 ^ 5 := Nat.pow_le_pow_right (by omega) (by omega)
    have hnx := nxt_M (σ 3 j) (by omega) (σ 3 p) (by omega)
    have hpm : pm (nb σ p) (j + 1) = pm (nb σ p) j + if nb σ p j then 2 ^ j else 0 := rfl
    have hnb : nb σ p j = (!aw σ j && nx (σ 3 p) (σ 3 j)) := by
      unfold nb
      rw [decide_eq_true (by omega : j < σ 0 0)]
      rfl
    rw [L_M_beside_4, S.1, ite_le (by omega) (by omega), if_neg (by omega)]
    simp only [jn_e]
    rw [S.2.2.2.1, bit_M _ B.2.2.2.1 _ (by omega), Option.bind_some, rdI_nI (by omega : j < 6) (by omega), S.2.2.2.2.2.2.1 j (by omega), Option.bind_some, rdI_nI hp (by omega), S.2.2.2.2.2.2.1 p hp, Option.bind_some, hnx.1, Option.bind_some, ite_b0, ite_b0, nI_1, or_bit j (by omega) _ hlt, or_0 _ (by omega), ite_eq (by omega) (by omega)]
    have hfalse : nb σ p j = false → L_M_beside_4 (nI p) μ (fun x => some x) m (nI (pm (nb σ p) j)) (nI (j + 1)) = some (nI (pm (nb σ p) (σ 0 0))) := fun hf => ih (j + 1) (by omega) m (by omega) _ _ rfl (by rw [hpm, hf]; rfl)
    by_cases hjp : j = p
    · rw [if_pos hjp]
      refine hfalse ?_
      rw [hnb, hjp, (nxt_M (σ 3 p) (by omega) (σ 3 p) (by omega)).2.2, Bool.and_false]
    · rw [if_neg hjp]
      have haw : (σ 0 3).testBit j = aw σ j := rfl
      rw [haw, hnx.2.1]
      cases h1 : aw σ j
      · rw [if_neg (show ¬ (false = true) by decide)]
        cases h2 : nx (σ 3 p) (σ 3 j)
        · rw [if_neg (show ¬ (false = true) by decide)]
          exact hfalse (by rw [hnb, h1, h2]; rfl)
        · rw [if_pos rfl]
          exact ih (j + 1) (by omega) m (by omega) _ _ rfl (by rw [hpm, hnb, h1, h2]; rfl)
      · rw [if_pos rfl]
        exact hfalse (by rw [hnb, h1]; rfl)
theorem m_bes (S : MR σ μ) (B : BW σ) {p : Nat} (hp : p < 6) : F_M_beside (nI p) μ = some (nI (pm (nb σ p) 6)) := by
  unfold F_M_beside
  rw [← nb_all B.1]
  exact m_besL S B hp (σ 0 0) 0 (by omega) fu (fu_gt (by have := B.1; omega)) 0 0 rfl rfl
theorem m_voice (S : MR σ μ) (K : MK rs μ) (O : MO rs σ) (B : BW σ) {p : Nat} (hp : p < σ 0 0) : ∃ μ', F_M_voice (nI p) μ = some (nI (vc σ p 0), μ') ∧ P26 μ μ' := by
  have h6 := B.1
  have hk := B.2.2.2.2.2.2.1 p
  have hv := B.2.2.2.2.2.2.2.1 p
  have hd := B.2.2.2.2.2.2.2.2.1 p
  have hw := B.2.1
  have hm4 : σ 0 1 % 4 < 4 := Nat.mod_lt _ (by omega)
  have hm := B.2.2.2.2.2.2.2.2.2.2.2 (p * 6 + σ 3 p)
  have hn := cnt_le σ p
  have hmn : σ 6 (p * 6 + σ 3 p) * cnt σ p ≤ 1000 * 6 := Nat.mul_le_mul hm hn
  obtain ⟨μ', e1, e2⟩ := (K μ rfl (fun _ _ _ => rfl)).2.2 p (σ 3 p) (σ 1 p) (σ 2 p) (by omega) (by omega) hk hv (S.2.2.2.2.1 p (by omega)) (S.2.2.2.2.2.1 p (by omega))
  refine ⟨μ', ?_, e2⟩
  have S' := S.p26 e2
  have hpop : pop (pm (nb σ p) 6) = cnt σ p := pop_pm _
  have hl : vc σ p 0 = vcK (σ 1 p) (σ 6 (p * 6 + σ 3 p)) (cnt σ p) (σ 2 p) (σ 5 (p * 4 + σ 0 1 % 4)) := rfl
  unfold F_M_voice
  rw [m_bes S B (by omega), Option.bind_some, many_64 _ (nbm_lt σ p), Option.bind_some, hpop, rdI_nI (by omega) (by omega), S.2.2.2.2.2.2.1 p (by omega), Option.bind_some, e1, Option.bind_some]
  rw [← O.2.2 p (σ 3 p) hp (by omega), hl]
  generalize σ 6 (p * 6 + σ 3 p) = m at *
  generalize cnt σ p = nn at *
  show ((rdI (μ' 4) 6 (nI p)).bind _) = _
  rw [rdI_nI (by omega) (by omega), S'.2.2.2.2.1 p (by omega), Option.bind_some, rdI_nI (by omega) (by omega), S'.2.2.2.2.2.1 p (by omega), Option.bind_some, S'.2.1, q1, q2, q3, q4, q5, q6, q0, pk_mul, pk_mul, nI_remP (by omega) (by omega) (by omega), nI_add, nI_add, nI_add, nI_add, rdI_nI (by omega) (by omega), S'.2.2.2.2.2.2.2.2 _ (by omega), Option.bind_some, nI_add, pk_div (by omega) (by omega) (by omega)]
  rw [ite_eq (by omega) (by omega), ite_eq (by omega) (by omega), ite_eq (by omega) (by omega), ite_eq (by omega) (by omega), ite_eq (by omega) (by omega), ite_eq (by omega) (by omega), ite_le (by omega) (by omega), ite_le (by omega) (by omega)]
  have e4 : 4 * p = p * 4 := Nat.mul_comm _ _
  rw [e4]
  unfold vcK
  rcases (show σ 1 p = 0 ∨ σ 1 p = 1 ∨ σ 1 p = 2 ∨ σ 1 p = 3 ∨ σ 1 p = 4 ∨ σ 1 p = 5 ∨ σ 1 p = 6 by omega) with h | h | h | h | h | h | h <;> rw [h] <;> simp only [Nat.reduceEqDiff, if_true, if_false, if_pos, if_neg, Nat.add_zero]
  · by_cases hz : nn = 0
    · simp only [hz, Nat.le_refl, if_true, Nat.add_zero]
    · rw [if_neg (by omega), if_neg hz]
  · by_cases hz : nn = 0
    · simp only [hz, Nat.le_refl, if_true, Nat.add_zero, nI_add]
    · rw [if_neg (by omega), if_neg hz, nI_add]
  · rw [Option.bind_some, nI_add]
theorem m_ckL (S : MR σ μ) (B : BW σ) {p : Nat} (hp : p < 6) (k : Int32 → Option (Int32 × Mm)) : ∀ d j, j + d = σ 0 0 → ∀ n, d < n → ∀ y x, x = nI j → y = nI (sm (fun q => (nb σ p q && isck σ q).toNat) j) → L_M_talk_35 (nI p) (nI (pm (nb σ p) 6)) μ k n y x = k (nI (sm (fun q => (nb σ p q && isck σ q).toNat) (σ 0 0))) := by
  have h6 := B.1
  intro d
  induction d with
  | zero =>
    intro j hj n hn y x hx hy
    subst hx; subst hy
    obtain ⟨m, rfl⟩ : ∃ m, n = m + 1 := ⟨n - 1, by omega⟩
    rw [L_M_talk_35, S.1, ite_le (by omega) (by omega), if_pos (by omega), show j = σ 0 0 by omega]
  | succ d ih =>
    intro j hj n hn y x hx hy
    subst hx; subst hy
    obtain ⟨m, rfl⟩ : ∃ m, n = m + 1 := ⟨n - 1, by omega⟩
    have hk := B.2.2.2.2.2.2.1 j
    have hsm : sm (fun q => (nb σ p q && isck σ q).toNat) (j + 1) = sm (fun q => (nb σ p q && isck σ q).toNat) j + (nb σ p j && isck σ j).toNat := rfl
    have hck : isck σ j = decide (σ 1 j = 5) := by
      unfold isck
      rw [decide_eq_true (by omega : j < σ 0 0)]
      rfl
    rw [L_M_talk_35, S.1, ite_le (by omega) (by omega), if_neg (by omega), bit_M _ (nbm_lt σ p) _ (by omega), Option.bind_some]
    simp only [jn_e]
    rw [pm_tb _ (by omega), rdI_nI (by omega) (by omega), S.2.2.2.2.1 j (by omega), Option.bind_some, q5, ite_eq (by omega) (by omega), ite_b0, nI_1, q0, q1, nI_add, nI_add]
    cases h1 : nb σ p j
    · rw [if_neg (show ¬ (false = true) by decide)]
      exact ih (j + 1) (by omega) m (by omega) _ _ rfl (by rw [hsm, h1]; rfl)
    · rw [if_pos rfl]
      by_cases h2 : σ 1 j = 5
      · rw [if_pos h2]
        exact ih (j + 1) (by omega) m (by omega) _ _ rfl (by rw [hsm, h1, hck, decide_eq_true h2]; rfl)
      · rw [if_neg h2]
        exact ih (j + 1) (by omega) m (by omega) _ _ rfl (by rw [hsm, h1, hck, decide_eq_false h2]; rfl)
theorem sm_stop {f : Nat → Nat} {n : Nat} (h : ∀ j, n ≤ j → f j = 0) : ∀ m, n ≤ m → sm f m = sm f n := by
  intro m hm
  induction m with
  | zero => rw [Nat.le_zero.mp hm]
  | succ m ih =>
    by_cases he : n = m + 1
    · rw [he]
    · show sm f m + f m = sm f n
      rw [ih (by omega), h m (by omega), Nat.add_zero]
theorem cck_sm (h6 : σ 0 0 ≤ 6) (p : Nat) : sm (fun q => (nb σ p q && isck σ q).toNat) (σ 0 0) = cck σ p := by
  rw [← sm_stop (n := σ 0 0) (fun j hj => by rw [nb_stop hj]; rfl) 6 h6]
  unfold cck cf6
  show 0 + _ + _ + _ + _ + _ + _ = _
  rw [Nat.zero_add]
theorem m_talk (S : MR σ μ) (K : MK rs μ) (O : MO rs σ) (B : BW σ) {p : Nat} (hp : p < σ 0 0) : ∃ μ', F_M_talk (nI p) μ = some (nI (tk σ p 0), μ') ∧ P26 μ μ' := by
  have h6 := B.1
  have hk := B.2.2.2.2.2.2.1 p
  have hvc := vc_le B p 0
  have hck := cck_le σ p
  have hwr := B.2.2.1
  have hws := B.2.2.2.2.1
  unfold F_M_talk tk
  rw [rdI_nI (by omega) (by omega), S.2.2.2.2.1 p (by omega), Option.bind_some, q5, ite_eq (by omega) (by omega), S.2.2.2.1, bit_M _ B.2.2.2.1 _ (by omega), Option.bind_some, ite_b0]
  have haw : (σ 0 3).testBit p = aw σ p := rfl
  rw [haw]
  by_cases h5 : σ 1 p = 5
  · rw [if_pos h5, if_pos h5, ite_self]
    exact ⟨μ, rfl, P26.rf⟩
  · rw [if_neg h5, if_neg h5]
    cases ha : aw σ p
    · rw [if_neg (show ¬ (false = true) by decide), if_neg (show ¬ (false = true) by decide), m_bes S B (by omega), Option.bind_some, m_ckL S B (by omega) _ (σ 0 0) 0 (by omega) fu (fu_gt (by omega)) 0 0 rfl rfl, cck_sm h6]
      obtain ⟨μ', e1, e2⟩ := m_voice S K O B hp
      have S' := S.p26 e2
      have K' := K.p26 e2
      refine ⟨μ', ?_, e2⟩
      rw [e1, Option.bind_some]
      show ((F_M_least0 _).bind _) = _
      unfold F_M_least0
      rw [q2, pk_mul, mx0' (by omega) (by omega), Option.bind_some, (K' μ' rfl (fun _ _ _ => rfl)).1, Option.bind_some, S'.2.2.1, ← O.1, q0, ite_eq (by have := nbm_lt σ p; omega) (by omega), ite_eq (by omega) (by omega), if_neg (show ¬ σ 0 4 = 0 by omega), pk_div (by omega) (by omega) (by omega), nI_add, nI_add]
      have hc0 : (cnt σ p = 0) = (pm (nb σ p) 6 = 0) := (pm_0 (nb σ p)).symm
      have hmin : min 99 (σ 0 2 + 0) = σ 0 2 := Nat.min_eq_right (by omega)
      rw [hmin]
      by_cases hz : pm (nb σ p) 6 = 0
      · rw [if_pos hz, if_pos (by rw [hc0]; exact hz)]
      · rw [if_neg hz, if_neg (by rw [hc0]; exact hz)]
    · rw [if_pos rfl, if_pos rfl]
      exact ⟨μ, rfl, P26.rf⟩
theorem m_nsL (K : MK rs μ) (O : MO rs σ) (B : BW σ) (k : Int32 → Mm → Option (Int32 × Mm)) : ∀ d j, j + d = σ 0 0 → ∀ n, d < n → ∀ y x, x = nI j → y = nI (sm (fun p => tk σ p 0) j) → ∀ μ1, MR σ μ1 → P26 μ μ1 → ∃ μ', L_M_noise_4 k n y x μ1 = k (nI (ns σ 0)) μ' ∧ P26 μ μ' := by
  have h6 := B.1
  intro d
  induction d with
  | zero =>
    intro j hj n hn y x hx hy μ1 S hP
    subst hx; subst hy
    obtain ⟨m, rfl⟩ : ∃ m, n = m + 1 := ⟨n - 1, by omega⟩
    refine ⟨μ1, ?_, hP⟩
    rw [L_M_noise_4, S.1, ite_le (by omega) (by omega), if_pos (by omega), show j = σ 0 0 by omega]
    rfl
  | succ d ih =>
    intro j hj n hn y x hx hy μ1 S hP
    subst hx; subst hy
    obtain ⟨m, rfl⟩ : ∃ m, n = m + 1 := ⟨n - 1, by omega⟩
    obtain ⟨μ2, e1, e2⟩ := m_talk S (K.p26 hP) O B (p := j) (by omega)
    obtain ⟨μ', e3, e4⟩ := ih (j + 1) (by omega) m (by omega) _ _ rfl rfl μ2 (S.p26 e2) (hP.tr e2)
    refine ⟨μ', ?_, e4⟩
    rw [L_M_noise_4, S.1, ite_le (by omega) (by omega), if_neg (by omega), e1, Option.bind_some, nI_1]
    show L_M_noise_4 k m (_ + _) _ μ2 = _
    rw [nI_add]
    exact e3
theorem m_noise (S : MR σ μ) (K : MK rs μ) (O : MO rs σ) (B : BW σ) : ∃ μ', F_M_noise μ = some (nI (ns σ 0), μ') ∧ P26 μ μ' := m_nsL K O B _ (σ 0 0) 0 (by omega) fu (fu_gt (by have := B.1; omega)) 0 0 rfl rfl μ S P26.rf
theorem m_least0 {x y : Nat} (hx : x < 1073741824) (hy : y < 1073741824) : F_M_least0 (nI x - nI y) = some (nI (x - y)) := by
  unfold F_M_least0
  exact mx0' hx hy
theorem m_learnsBy (S : MR σ μ) (K : MK rs μ) (O : MO rs σ) (B : BW σ) {p z : Nat} (hp : p < 6) (hz : z < 1000000) : F_M_learnsBy (nI p) (nI z) μ = some (nI (ln σ p z)) := by
  have hk := B.2.2.2.2.2.2.1 p
  have hv := B.2.2.2.2.2.2.2.1 p
  have hd := B.2.2.2.2.2.2.2.2.1 p
  have hc := B.2.2.2.2.2.1
  have hn := cnt_le σ p
  have hpop : pop (pm (nb σ p) 6) = cnt σ p := pop_pm _
  have hzc : z / σ 0 5 ≤ z := Nat.div_le_self _ _
  have hr : (σ 3 p ≤ 2) = ¬ (σ 3 p / 3 = 1) := propext (by omega)
  unfold F_M_learnsBy ln lnK
  rw [S.2.2.2.1, bit_M _ B.2.2.2.1 _ hp, Option.bind_some, ite_b0, (K μ rfl (fun _ _ _ => rfl)).2.1, Option.bind_some, ← O.2.1]
  simp only [jn_e, m_bes S B hp, Option.bind_some, many_64 _ (nbm_lt σ p), hpop, rdI_nI hp (show 6 < 2147483648 by omega), S.2.2.2.2.1 p hp, S.2.2.2.2.2.2.1 p hp, S.2.2.2.2.2.1 p hp]
  rw [q0, q10, q2, q3, q4, q5, q6, pk_div (by omega) (by omega) (by omega)]
  simp (disch := omega) only [nI_sub2, m_least0, Option.bind_some]
  rw [ite_eq (by omega) (by omega), ite_eq (by omega) (by omega), ite_eq (by omega) (by omega), ite_eq (by omega) (by omega), ite_eq (by omega) (by omega), ite_eq (by omega) (by omega), ite_le (by omega) (by omega), if_neg (show ¬ σ 0 5 = 0 by omega)]
  have haw : (σ 0 3).testBit p = aw σ p := rfl
  rw [haw]
  cases ha : aw σ p
  · rw [if_neg (show ¬ (false = true) by decide), if_neg (show ¬ (false = true) by decide)]
    rcases (show σ 1 p = 0 ∨ σ 1 p = 1 ∨ σ 1 p = 2 ∨ σ 1 p = 3 ∨ σ 1 p = 4 ∨ σ 1 p = 5 ∨ σ 1 p = 6 by omega) with h | h | h | h | h | h | h <;> rw [h] <;> simp only [Nat.reduceEqDiff, if_true, if_false, if_pos, if_neg, Nat.add_zero]
    · by_cases h2 : σ 3 p / 3 = 1
      · rw [if_neg (by omega), if_pos h2]
      · rw [if_pos (by omega), if_neg h2, Nat.add_zero]
    · by_cases h2 : σ 3 p / 3 = 1
      · rw [if_neg (by omega), if_pos h2]
      · rw [if_pos (by omega), if_neg h2, Nat.add_zero]
  · rfl
end MB
