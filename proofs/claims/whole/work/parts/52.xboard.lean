/-! the class's Seating: what its questions answer -/
section XB
variable {b : Nat} {σ : Sg} {μ : Mm}
theorem x_isAway (S : SR b σ μ) (B : BW σ) {p : Nat} (hp : p < 6) : F_Seat_isAway b (nI p) μ = some (b2i (aw σ p)) := by
  unfold F_Seat_isAway aw
  rw [S.2.2.2.1, bit_BT _ B.2.2.2.1 _ hp, Option.bind_some, rZ_b, Option.bind_some]
theorem x_nbL (S : SR b σ μ) (B : BW σ) {p : Nat} (hp : p < 6) (k : Int32 → Option Int32) : ∀ d j, j + d = σ 0 0 → ∀ n, d < n → L_Seat_neighbours_4 b (nI p) μ k n (nI (pm (nb σ p) j)) (nI j) = k (nI (pm (nb σ p) (σ 0 0))) := by
  have h6 := B.1
  intro d
  induction d with
  | zero =>
    intro j hj n hn
    obtain ⟨m, rfl⟩ : ∃ m, n = m + 1 := ⟨n - 1, by omega⟩
    rw [L_Seat_neighbours_4, S.1, ite_le (by omega) (by omega), if_pos (by omega), show j = σ 0 0 by omega]
  | succ d ih =>
    intro j hj n hn
    obtain ⟨m, rfl⟩ : ∃ m, n = m + 1 := ⟨n - 1, by omega⟩
    have hd1 := B.2.2.2.2.2.2.2.2.1 p
    have hd2 := B.2.2.2.2.2.2.2.2.1 j
    have hlt := pm_lt (nb σ p) j
    have ih' := ih (j + 1) (by omega) m (by omega)
    rw [L_Seat_neighbours_4, S.1, ite_le (by omega) (by omega), if_neg (by omega), x_isAway S B (by omega), Option.bind_some]
    simp only [jn_e, lt_e]
    rw [rdI_nI hp (by omega), S.2.2.2.2.2.2.2.2.2.1 p hp, Option.bind_some, rdI_nI (g := nextT) (by omega) (by omega), Option.bind_some, rdI_nI (by omega : j < 6) (by omega), S.2.2.2.2.2.2.2.2.2.1 j (by omega), Option.bind_some, nxt_6 _ (by omega) _ (by omega), Option.bind_some, ite_b0, ite_b0, nI_1, or_bit j (by omega) _ hlt]
    have hnb : nb σ p j = (!aw σ j && nx (σ 3 p) (σ 3 j)) := by
      unfold nb
      rw [decide_eq_true (by omega : j < σ 0 0)]
      rfl
    have hpm : pm (nb σ p) (j + 1) = pm (nb σ p) j + if nb σ p j then 2 ^ j else 0 := rfl
    rw [hpm, hnb] at ih'
    cases h1 : aw σ j <;> cases h2 : nx (σ 3 p) (σ 3 j) <;> simp only [h1, h2, Bool.not_true, Bool.not_false, Bool.true_and, Bool.false_and, Bool.and_true, Bool.and_false, if_true, if_false, Nat.add_zero, Bool.false_eq_true, reduceCtorEq] at ih' ⊢ <;> exact ih'
theorem x_nb (S : SR b σ μ) (B : BW σ) {p : Nat} (hp : p < 6) : F_Seat_neighbours b (nI p) μ = some (nI (pm (nb σ p) 6)) := by
  unfold F_Seat_neighbours
  rw [← nb_all B.1]
  exact x_nbL S B hp _ (σ 0 0) 0 (by omega) fu (fu_gt (by have := B.1; omega))
theorem x_kindOf (S : SR b σ μ) (B : BW σ) {p : Nat} (hp : p < 6) : F_Seat_kindOf b (nI p) μ = some (24 + σ 1 p) := by
  have hk := B.2.2.2.2.2.2.1 p
  unfold F_Seat_kindOf
  rw [rdI_nI hp (by omega), S.2.2.2.2.2.2.2.1 p hp, Option.bind_some, rdR_nI (by omega) (by omega), Option.bind_some]
theorem v_voice : ∀ kd, kd ≤ 6 → ∀ m n v l : Nat, m ≤ 1000 → n ≤ 6 → v ≤ 9 → l ≤ 9 → V_voice (24 + kd) (nI m) (nI n) (nI v) (nI l) = some (nI (vcK kd m n v l)) := by
  intro kd hkd m n v l hm hn hv hl
  have hmn : m * n ≤ 1000 * 6 := Nat.mul_le_mul hm hn
  rcases (show kd = 0 ∨ kd = 1 ∨ kd = 2 ∨ kd = 3 ∨ kd = 4 ∨ kd = 5 ∨ kd = 6 by omega) with rfl | rfl | rfl | rfl | rfl | rfl | rfl
  · show F_PK_voice (24 + 0) (nI m) (nI n) (nI v) (nI l) = _
    unfold F_PK_voice
    rw [pk_mul]
    rfl
  · show F_Talk_voice (24 + 1) (nI m) (nI n) (nI v) (nI l) = _
    unfold F_Talk_voice F_PK_voice
    rw [pk_mul, Option.bind_some, q0, ite_le (by omega) (by omega)]
    show _ = some (nI (m * n + (if n = 0 then 0 else v)))
    by_cases h : n = 0
    · rw [if_pos (by omega), if_pos h, nI_add]
    · rw [if_neg (by omega), if_neg h, nI_add]
  · show F_Quiet_voice (24 + 2) (nI m) (nI n) (nI v) (nI l) = _
    unfold F_Quiet_voice F_PK_voice
    rw [pk_mul, Option.bind_some, q2, pk_div (by omega) (by omega) (by omega)]
    rfl
  · show F_PK_voice (24 + 3) (nI m) (nI n) (nI v) (nI l) = _
    unfold F_PK_voice
    rw [pk_mul]
    rfl
  · show F_Tom_voice (24 + 4) (nI m) (nI n) (nI v) (nI l) = _
    unfold F_Tom_voice F_Talk_voice F_PK_voice
    rw [pk_mul, Option.bind_some, q0, ite_le (by omega) (by omega)]
    show _ = some (nI (m * n + (if n = 0 then 0 else v) + m))
    by_cases h : n = 0
    · rw [if_pos (by omega), if_pos h, nI_add, Option.bind_some, nI_add]
    · rw [if_neg (by omega), if_neg h, nI_add, Option.bind_some, nI_add]
  · rfl
  · show F_Told_voice (24 + 6) (nI m) (nI n) (nI v) (nI l) = _
    unfold F_Told_voice F_PK_voice
    rw [pk_mul, Option.bind_some, nI_add]
    rfl
theorem x_voice (S : SR b σ μ) (B : BW σ) {p t : Nat} (hp : p < 6) (ht : t ≤ 20000) : F_Seat_voice b (nI p) (nI t) μ = some (nI (vc σ p t)) := by
  have hd := B.2.2.2.2.2.2.2.2.1 p
  have hk := B.2.2.2.2.2.2.1 p
  have hw := B.2.1
  have hm : (σ 0 1 + t) % 4 < 4 := Nat.mod_lt _ (by omega)
  unfold F_Seat_voice
  rw [x_nb S B hp, Option.bind_some, bitCount_64 _ (nbm_lt σ p), Option.bind_some, pop_pm, S.2.1, nI_add, q4, nI_remP (by omega) (by omega) (by omega), pk_mul, nI_add, rdI_nI (by omega) (by omega), S.2.2.2.2.2.2.2.2.2.2.2.1 _ (by omega), Option.bind_some, x_kindOf S B hp, Option.bind_some, rdI_nI hp (by omega), S.2.2.2.2.2.2.2.2.2.1 p hp, Option.bind_some, q6, pk_mul, nI_add, rdI_nI (by omega) (by omega), S.2.2.2.2.2.2.2.2.2.2.2.2 _ (by omega), Option.bind_some, rdI_nI hp (by omega), S.2.2.2.2.2.2.2.2.1 p hp, Option.bind_some]
  rw [v_voice _ hk _ _ _ _ (B.2.2.2.2.2.2.2.2.2.2.2 _) (cf6_le _) (B.2.2.2.2.2.2.2.1 _) (B.2.2.2.2.2.2.2.2.2.2.1 _), Option.bind_some]
  rfl
theorem x_cut {a c : Nat} (ha : a < 2147483648) (h1 : 1 ≤ c) (hc : c < 2147483648) : F_BT_cut (nI a) (nI c) = some (nI (a / c)) := by
  unfold F_BT_cut
  rw [q1, q0, ite_le (by omega) (by omega), if_pos h1, ite_eq (by omega) (by omega), if_neg (by omega), pk_div ha h1 hc]
theorem x_min {a c : Nat} (ha : a < 2147483648) (hc : c < 2147483648) : (if nI a > nI c then nI c else nI a) = nI (min a c) := by
  rw [ite_gt ha hc]
  by_cases h : a > c
  · rw [if_pos h, Nat.min_eq_right (by omega)]
  · rw [if_neg h, Nat.min_eq_left (by omega)]
theorem x_talk (S : SR b σ μ) (B : BW σ) {p t : Nat} (hp : p < 6) (ht : t ≤ 20000) : F_Seat_talk b (nI p) (nI t) μ = some (nI (tk σ p t)) := by
  have hk := B.2.2.2.2.2.2.1 p
  have hvc := vc_le B p t
  have hck := cck_le σ p
  have hwr := B.2.2.1
  have hws := B.2.2.2.2.1
  unfold F_Seat_talk tk
  rw [x_isAway S B hp, Option.bind_some, ite_b0]
  cases ha : aw σ p
  · rw [if_neg (show ¬ (false = true) by decide), if_neg (show ¬ (false = true) by decide), rdI_nI hp (by omega), S.2.2.2.2.2.2.2.1 p hp, Option.bind_some, q5, ite_eq (by omega) (by omega)]
    by_cases h5 : σ 1 p = 5
    · rw [if_pos h5, if_pos h5]
      rfl
    · rw [if_neg h5, if_neg h5, x_nb S B hp, Option.bind_some, x_voice S B hp ht, Option.bind_some, S.2.2.2.2.2.2.1, (and_64 _ (nbm_lt σ p) _ (ckm_lt σ)).1, bitCount_64 _ (and_64 _ (nbm_lt σ p) _ (ckm_lt σ)).2, Option.bind_some, pop_cck, q2, pk_mul]
      simp only [lt_e]
      have hm0 := mx0 (x := vc σ p t) (y := 2 * cck σ p) (by omega) (by omega)
      have hc0 : (cnt σ p = 0) = (pm (nb σ p) 6 = 0) := (pm_0 (nb σ p)).symm
      rw [hm0, S.2.2.1, nI_add, q99, x_min (by omega) (by omega), S.2.2.2.2.1, x_cut (by have := Nat.min_le_left 99 (σ 0 2 + t); omega) (by omega) (by omega), Option.bind_some, nI_add, q0, ite_eq (by have := nbm_lt σ p; omega) (by omega)]
      by_cases hz : pm (nb σ p) 6 = 0
      · rw [if_pos hz, if_pos (by rw [hc0]; exact hz), Nat.add_zero]
      · rw [if_neg hz, if_neg (by rw [hc0]; exact hz)]
  · rfl
theorem x_nsL (S : SR b σ μ) (B : BW σ) {t : Nat} (ht : t ≤ 20000) (k : Int32 → Option Int32) : ∀ d j, j + d = σ 0 0 → ∀ n, d < n → L_Seat_noise_4 b (nI t) μ k n (nI (sm (fun p => tk σ p t) j)) (nI j) = k (nI (ns σ t)) := by
  have h6 := B.1
  intro d
  induction d with
  | zero =>
    intro j hj n hn
    obtain ⟨m, rfl⟩ : ∃ m, n = m + 1 := ⟨n - 1, by omega⟩
    rw [L_Seat_noise_4, S.1, ite_le (by omega) (by omega), if_pos (by omega), show j = σ 0 0 by omega]
    rfl
  | succ d ih =>
    intro j hj n hn
    obtain ⟨m, rfl⟩ : ∃ m, n = m + 1 := ⟨n - 1, by omega⟩
    rw [L_Seat_noise_4, S.1, ite_le (by omega) (by omega), if_neg (by omega), x_talk S B (by omega) ht, Option.bind_some, nI_add, nI_1]
    exact ih (j + 1) (by omega) m (by omega)
theorem x_noise (S : SR b σ μ) (B : BW σ) {t : Nat} (ht : t ≤ 20000) : F_Seat_noise b (nI t) μ = some (nI (ns σ t)) := x_nsL S B ht _ (σ 0 0) 0 (by omega) fu (fu_gt (by have := B.1; omega))
theorem v_learning : ∀ kd, kd ≤ 6 → ∀ a n r v : Nat, a < 1000000 → n ≤ 6 → v ≤ 9 → r ≤ 5 → ∃ x y, x < 1073741824 ∧ y < 1073741824 ∧ V_learning (24 + kd) (nI 10 - nI a) (nI n) (nI r) (nI v) = some (nI x - nI y) ∧ x - y = lnK kd a n r v := by
  intro kd hkd a n r v ha hn hv hr
  rcases (show kd = 0 ∨ kd = 1 ∨ kd = 2 ∨ kd = 3 ∨ kd = 4 ∨ kd = 5 ∨ kd = 6 by omega) with rfl | rfl | rfl | rfl | rfl | rfl | rfl
  · exact ⟨10, a, by omega, by omega, rfl, rfl⟩
  · exact ⟨10, a, by omega, by omega, rfl, rfl⟩
  · refine ⟨10, a + n, by omega, by omega, ?_, rfl⟩
    show F_Quiet_learning (24 + 2) (nI 10 - nI a) (nI n) (nI r) (nI v) = _
    unfold F_Quiet_learning F_PK_learning
    rw [Option.bind_some, nI_sub2]
  · refine ⟨10, a + (if r = 1 then 5 else 0), by omega, by split <;> omega, ?_, rfl⟩
    show F_Short_learning (24 + 3) (nI 10 - nI a) (nI n) (nI r) (nI v) = _
    unfold F_Short_learning F_PK_learning
    rw [Option.bind_some, q1, ite_eq (by omega) (by omega), q5, q0]
    by_cases h : r = 1
    · rw [if_pos h, if_pos h, nI_sub2]
    · rw [if_neg h, if_neg h, nI_sub2]
  · exact ⟨10, a, by omega, by omega, rfl, rfl⟩
  · refine ⟨10, a + n + v, by omega, by omega, ?_, rfl⟩
    show F_Cork_learning (24 + 5) (nI 10 - nI a) (nI n) (nI r) (nI v) = _
    unfold F_Cork_learning F_Quiet_learning F_PK_learning
    rw [Option.bind_some, Option.bind_some, nI_sub2, nI_sub2]
  · refine ⟨10, a + (if r = 1 then 5 else 0), by omega, by split <;> omega, ?_, rfl⟩
    show F_Short_learning (24 + 6) (nI 10 - nI a) (nI n) (nI r) (nI v) = _
    unfold F_Short_learning F_PK_learning
    rw [Option.bind_some, q1, ite_eq (by omega) (by omega), q5, q0]
    by_cases h : r = 1
    · rw [if_pos h, if_pos h, nI_sub2]
    · rw [if_neg h, if_neg h, nI_sub2]
theorem x_learns (S : SR b σ μ) (B : BW σ) {p z : Nat} (hp : p < 6) (hz : z < 1000000) : F_Seat_learns b (nI p) (nI z) μ = some (nI (ln σ p z)) := by
  have hk := B.2.2.2.2.2.2.1 p
  have hd := B.2.2.2.2.2.2.2.2.1 p
  have hc := B.2.2.2.2.2.1
  unfold F_Seat_learns ln
  rw [x_isAway S B hp, Option.bind_some, ite_b0]
  cases ha : aw σ p
  · rw [if_neg (show ¬ (false = true) by decide), if_neg (show ¬ (false = true) by decide), x_nb S B hp, Option.bind_some, bitCount_64 _ (nbm_lt σ p), Option.bind_some, pop_pm, x_kindOf S B hp, Option.bind_some, S.2.2.2.2.2.1, x_cut (by omega) (by omega) (by omega), Option.bind_some, rdI_nI hp (by omega), S.2.2.2.2.2.2.2.2.2.1 p hp, Option.bind_some, rdI_nI hp (by omega), S.2.2.2.2.2.2.2.2.1 p hp, Option.bind_some, q3, pk_div (by omega) (by omega) (by omega), q10]
    obtain ⟨x, y, h1, h2, h3, h4⟩ := v_learning (σ 1 p) hk (z / σ 0 5) (cnt σ p) (σ 3 p / 3) (σ 2 p) (Nat.lt_of_le_of_lt (Nat.div_le_self _ _) hz) (cnt_le σ p) (B.2.2.2.2.2.2.2.1 _) (by omega)
    have h3' : V_learning (24 + σ 1 p) (nI 10 - nI (z / σ 0 5)) (nI (cf6 (nb σ p))) (nI (σ 3 p / 3)) (nI (σ 2 p)) = some (nI x - nI y) := h3
    rw [h3', Option.bind_some]
    simp only [lt_e]
    rw [mx0 h1 h2, h4]
  · rfl
theorem x_lnsL (S : SR b σ μ) (B : BW σ) {z : Nat} (hz : z < 1000000) (k : Int32 → Option Int32) : ∀ d j, j + d = σ 0 0 → ∀ n, d < n → L_Seat_learnsOfAll_4 b (nI z) μ k n (nI (sm (fun p => ln σ p z) j)) (nI j) = k (nI (lns σ z)) := by
  have h6 := B.1
  intro d
  induction d with
  | zero =>
    intro j hj n hn
    obtain ⟨m, rfl⟩ : ∃ m, n = m + 1 := ⟨n - 1, by omega⟩
    rw [L_Seat_learnsOfAll_4, S.1, ite_le (by omega) (by omega), if_pos (by omega), show j = σ 0 0 by omega]
    rfl
  | succ d ih =>
    intro j hj n hn
    obtain ⟨m, rfl⟩ : ∃ m, n = m + 1 := ⟨n - 1, by omega⟩
    rw [L_Seat_learnsOfAll_4, S.1, ite_le (by omega) (by omega), if_neg (by omega), x_learns S B (by omega) hz, Option.bind_some, nI_add, nI_1]
    exact ih (j + 1) (by omega) m (by omega)
theorem x_lns (S : SR b σ μ) (B : BW σ) {z : Nat} (hz : z < 1000000) : F_Seat_learnsOfAll b (nI z) μ = some (nI (lns σ z)) := x_lnsL S B hz _ (σ 0 0) 0 (by omega) fu (fu_gt (by have := B.1; omega))
theorem x_knsL (S : SR b σ μ) (B : BW σ) (k : Int32 → Option Int32) : ∀ d j, j + d = σ 0 0 → ∀ n, d < n → L_Seat_knowsOfAll_4 b μ k n (nI (sm (fun p => σ 4 p) j)) (nI j) = k (nI (kns σ)) := by
  have h6 := B.1
  intro d
  induction d with
  | zero =>
    intro j hj n hn
    obtain ⟨m, rfl⟩ : ∃ m, n = m + 1 := ⟨n - 1, by omega⟩
    rw [L_Seat_knowsOfAll_4, S.1, ite_le (by omega) (by omega), if_pos (by omega), show j = σ 0 0 by omega]
    rfl
  | succ d ih =>
    intro j hj n hn
    obtain ⟨m, rfl⟩ : ∃ m, n = m + 1 := ⟨n - 1, by omega⟩
    rw [L_Seat_knowsOfAll_4, S.1, ite_le (by omega) (by omega), if_neg (by omega), rdI_nI (by omega) (by omega), S.2.2.2.2.2.2.2.2.2.2.1 j (by omega), Option.bind_some, nI_add, nI_1]
    exact ih (j + 1) (by omega) m (by omega)
theorem x_kns (S : SR b σ μ) (B : BW σ) : F_Seat_knowsOfAll b μ = some (nI (kns σ)) := x_knsL S B _ (σ 0 0) 0 (by omega) fu (fu_gt (by have := B.1; omega))
/-- who has a desk, as the class tells it -/
def whI (o : Option Nat) : Int32 := match o with
  | some p => nI p
  | none => -1
theorem x_whL (S : SR b σ μ) (B : BW σ) {e : Nat} (he : e ≤ 5) : ∀ d j, j + d = σ 0 0 → ∀ n, d < n → L_Seat_whoHas_2 b (nI e) μ (fun _ => some (-1)) n (nI j) = some (whI (whf σ e d j)) := by
  have h6 := B.1
  intro d
  induction d with
  | zero =>
    intro j hj n hn
    obtain ⟨m, rfl⟩ : ∃ m, n = m + 1 := ⟨n - 1, by omega⟩
    rw [L_Seat_whoHas_2, S.1, ite_le (by omega) (by omega), if_pos (by omega)]
    rfl
  | succ d ih =>
    intro j hj n hn
    obtain ⟨m, rfl⟩ : ∃ m, n = m + 1 := ⟨n - 1, by omega⟩
    have hd := B.2.2.2.2.2.2.2.2.1 j
    rw [L_Seat_whoHas_2, S.1, ite_le (by omega) (by omega), if_neg (by omega), rdI_nI (by omega) (by omega), S.2.2.2.2.2.2.2.2.2.1 j (by omega), Option.bind_some, ite_eq (by omega) (by omega), nI_1]
    show (if σ 3 j = e then _ else _) = some (whI (if σ 3 j = e then some j else whf σ e d (j + 1)))
    by_cases h : σ 3 j = e
    · rw [if_pos h, if_pos h]
      rfl
    · rw [if_neg h, if_neg h]
      exact ih (j + 1) (by omega) m (by omega)
theorem x_wh (S : SR b σ μ) (B : BW σ) {e : Nat} (he : e ≤ 5) : F_Seat_whoHas b (nI e) μ = some (whI (wh σ e)) := x_whL S B he (σ 0 0) 0 (by omega) fu (fu_gt (by have := B.1; omega))
end XB
