/-! what changes a room: spec and the class's Seating -/
def sitsF (σ : Sg) (p d : Nat) : Nat → Nat := fun j => if j = p then d else match wh σ d with
  | some q => if j = q then σ 3 p else σ 3 j
  | none => σ 3 j
def sits (σ : Sg) (p d : Nat) : Sg := row σ 3 (sitsF σ p d)
def moves (σ : Sg) (p d : Nat) : Sg := ups (sits σ p d) 0 2 0
def swapF (σ : Sg) (a b : Nat) : Nat → Nat := fun j => if j = b then σ 3 a else if j = a then σ 3 b else σ 3 j
def swap (σ : Sg) (a b : Nat) : Sg := row σ 3 (swapF σ a b)
def awset (σ : Sg) (p : Nat) (c : Bool) : Sg := ups σ 0 3 (mset (σ 0 3) p c)
def kfN (M : Nat) (σ : Sg) (z j : Nat) : Nat → Nat := fun p => if p < j then min M (σ 4 p + ln σ p z) else σ 4 p
def wk (M : Nat) (σ : Sg) : Sg := ups (ups (row σ 4 (kfN M σ (ns σ 0) (σ 0 0))) 0 2 (min 99 (σ 0 2 + 1))) 0 1 (σ 0 1 + 1)
theorem whf_some {σ : Sg} {d : Nat} : ∀ n j q, whf σ d n j = some q → j ≤ q ∧ q < j + n ∧ σ 3 q = d
  | 0, j, q, h => by cases h
  | n + 1, j, q, h => by
    have h' : (if σ 3 j = d then some j else whf σ d n (j + 1)) = some q := h
    by_cases hd : σ 3 j = d
    · rw [if_pos hd] at h'
      cases h'
      exact ⟨Nat.le_refl _, by omega, hd⟩
    · rw [if_neg hd] at h'
      have := whf_some n (j + 1) q h'
      exact ⟨by omega, by omega, this.2.2⟩
theorem wh_some {σ : Sg} {d q : Nat} (h : wh σ d = some q) : q < σ 0 0 ∧ σ 3 q = d := by
  have := whf_some _ _ _ h
  exact ⟨by omega, this.2.2⟩
theorem SR_row3 {b : Nat} {σ : Sg} {μ μ' : Mm} {f : Nat → Nat} (S : SR b σ μ) (h3 : ∀ p, p < 6 → μ' (b + 3) p = nI (f p)) (ho : ∀ c, c ≠ b + 3 → μ' c = μ c) : SR b (row σ 3 f) μ' := by
  obtain ⟨s1, s2, s3, s4, s5, s6, s7, s8, s9, s10, s11, s12, s13⟩ := S
  unfold SR
  rw [ho b (by omega), ho (b + 1) (by omega), ho (b + 2) (by omega), ho (b + 4) (by omega), ho (b + 5) (by omega), ho (b + 6) (by omega)]
  exact ⟨s1, s2, s3, s4, s5, s6, s7, s8, s9, h3, s11, s12, s13⟩
theorem SR_row4 {b : Nat} {σ : Sg} {μ μ' : Mm} {f : Nat → Nat} (S : SR b σ μ) (h3 : ∀ p, p < 6 → μ' (b + 4) p = nI (f p)) (ho : ∀ c, c ≠ b + 4 → μ' c = μ c) : SR b (row σ 4 f) μ' := by
  obtain ⟨s1, s2, s3, s4, s5, s6, s7, s8, s9, s10, s11, s12, s13⟩ := S
  unfold SR
  rw [ho b (by omega), ho (b + 1) (by omega), ho (b + 2) (by omega), ho (b + 3) (by omega), ho (b + 5) (by omega), ho (b + 6) (by omega)]
  exact ⟨s1, s2, s3, s4, s5, s6, s7, s8, s9, s10, h3, s12, s13⟩
theorem row_row {σ : Sg} {i : Nat} {f g : Nat → Nat} : row (row σ i g) i f = row σ i f := by
  funext a
  show (if a = i then f else if a = i then g else σ a) = if a = i then f else σ a
  by_cases h : a = i
  · rw [if_pos h, if_pos h]
  · rw [if_neg h, if_neg h, if_neg h]
theorem SR_wear {b : Nat} {σ : Sg} {μ : Mm} {v : Nat} (S : SR b σ μ) : SR b (ups σ 0 2 v) (up2 μ b 3 (nI v)) := by
  obtain ⟨s1, s2, s3, s4, s5, s6, s7, s8, s9, s10, s11, s12, s13⟩ := S
  unfold SR
  rw [u_eq rfl rfl, u_nj (by omega), u_nj (by omega), u_nj (by omega), u_nj (by omega), u_nj (by omega), u_nj (by omega), u_cf (by omega), u_cf (by omega), u_cf (by omega), u_cf (by omega), u_cf (by omega), u_cf (by omega)]
  exact ⟨s1, s2, rfl, s4, s5, s6, s7, s8, s9, s10, s11, s12, s13⟩
theorem SR_week {b : Nat} {σ : Sg} {μ : Mm} {v : Nat} (S : SR b σ μ) : SR b (ups σ 0 1 v) (up2 μ b 2 (nI v)) := by
  obtain ⟨s1, s2, s3, s4, s5, s6, s7, s8, s9, s10, s11, s12, s13⟩ := S
  unfold SR
  rw [u_eq rfl rfl, u_nj (by omega), u_nj (by omega), u_nj (by omega), u_nj (by omega), u_nj (by omega), u_nj (by omega), u_cf (by omega), u_cf (by omega), u_cf (by omega), u_cf (by omega), u_cf (by omega), u_cf (by omega)]
  exact ⟨s1, rfl, s3, s4, s5, s6, s7, s8, s9, s10, s11, s12, s13⟩
theorem SR_mask {b : Nat} {σ : Sg} {μ : Mm} {v : Nat} (S : SR b σ μ) : SR b (ups σ 0 3 v) (up2 μ b 7 (nI v)) := by
  obtain ⟨s1, s2, s3, s4, s5, s6, s7, s8, s9, s10, s11, s12, s13⟩ := S
  unfold SR
  rw [u_eq rfl rfl, u_nj (by omega), u_nj (by omega), u_nj (by omega), u_nj (by omega), u_nj (by omega), u_nj (by omega), u_cf (by omega), u_cf (by omega), u_cf (by omega), u_cf (by omega), u_cf (by omega), u_cf (by omega)]
  exact ⟨s1, s2, s3, rfl, s5, s6, s7, s8, s9, s10, s11, s12, s13⟩
theorem BW_row3 {σ : Sg} {f : Nat → Nat} (B : BW σ) (h : ∀ p, f p ≤ 5) : BW (row σ 3 f) := ⟨B.1, B.2.1, B.2.2.1, B.2.2.2.1, B.2.2.2.2.1, B.2.2.2.2.2.1, B.2.2.2.2.2.2.1, B.2.2.2.2.2.2.2.1, h, B.2.2.2.2.2.2.2.2.2⟩
theorem BW_row4 {σ : Sg} {f : Nat → Nat} (B : BW σ) (h : ∀ p, f p ≤ 100000000) : BW (row σ 4 f) := ⟨B.1, B.2.1, B.2.2.1, B.2.2.2.1, B.2.2.2.2.1, B.2.2.2.2.2.1, B.2.2.2.2.2.2.1, B.2.2.2.2.2.2.2.1, B.2.2.2.2.2.2.2.2.1, h, B.2.2.2.2.2.2.2.2.2.2⟩
theorem BW_wear {σ : Sg} {v : Nat} (B : BW σ) (h : v ≤ 99) : BW (ups σ 0 2 v) := ⟨B.1, B.2.1, h, B.2.2.2.1, B.2.2.2.2.1, B.2.2.2.2.2.1, B.2.2.2.2.2.2.1, B.2.2.2.2.2.2.2.1, B.2.2.2.2.2.2.2.2.1, B.2.2.2.2.2.2.2.2.2⟩
theorem BW_week {σ : Sg} {v : Nat} (B : BW σ) (h : v ≤ 20000) : BW (ups σ 0 1 v) := ⟨B.1, h, B.2.2.1, B.2.2.2.1, B.2.2.2.2.1, B.2.2.2.2.2.1, B.2.2.2.2.2.2.1, B.2.2.2.2.2.2.2.1, B.2.2.2.2.2.2.2.2.1, B.2.2.2.2.2.2.2.2.2⟩
theorem BW_mask {σ : Sg} {v : Nat} (B : BW σ) (h : v < 64) : BW (ups σ 0 3 v) := ⟨B.1, B.2.1, B.2.2.1, h, B.2.2.2.2.1, B.2.2.2.2.2.1, B.2.2.2.2.2.2.1, B.2.2.2.2.2.2.2.1, B.2.2.2.2.2.2.2.2.1, B.2.2.2.2.2.2.2.2.2⟩
theorem sitsF_le {σ : Sg} (B : BW σ) {p d : Nat} (hd : d ≤ 5) (j : Nat) : sitsF σ p d j ≤ 5 := by
  have hb := B.2.2.2.2.2.2.2.2.1
  unfold sitsF
  split
  · exact hd
  · split
    · split
      · exact hb p
      · exact hb j
    · exact hb j
theorem swapF_le {σ : Sg} (B : BW σ) {a c : Nat} (j : Nat) : swapF σ a c j ≤ 5 := by
  have hb := B.2.2.2.2.2.2.2.2.1
  unfold swapF
  split
  · exact hb a
  · split
    · exact hb c
    · exact hb j
theorem BW_sits {σ : Sg} (B : BW σ) {p d : Nat} (hd : d ≤ 5) : BW (sits σ p d) := BW_row3 B (sitsF_le B hd)
theorem BW_moves {σ : Sg} (B : BW σ) {p d : Nat} (hd : d ≤ 5) : BW (moves σ p d) := BW_wear (BW_sits B hd) (by omega)
theorem BW_swap {σ : Sg} (B : BW σ) {a c : Nat} : BW (swap σ a c) := BW_row3 B (swapF_le B)
theorem BW_awset {σ : Sg} (B : BW σ) {p : Nat} (hp : p < 6) {c : Bool} : BW (awset σ p c) := BW_mask B (by cases c; exact (mset_lt _ B.2.2.2.1 p hp).2; exact (mset_lt _ B.2.2.2.1 p hp).1)
theorem kfN_le {σ : Sg} (B : BW σ) {M z j : Nat} (hk : ∀ p, σ 4 p ≤ 99999990) (p : Nat) : kfN M σ z j p ≤ 100000000 := by
  have h1 := hk p
  have h2 := ln_le σ p z
  have h3 : min M (σ 4 p + ln σ p z) ≤ σ 4 p + ln σ p z := Nat.min_le_right _ _
  unfold kfN
  split <;> omega
theorem BW_wk {σ : Sg} (B : BW σ) {M : Nat} (hk : ∀ p, σ 4 p ≤ 99999990) (hw : σ 0 1 < 20000) : BW (wk M σ) := BW_week (BW_wear (BW_row4 B (kfN_le B hk)) (Nat.min_le_left _ _)) hw
section XO
variable {b : Nat} {σ : Sg} {μ : Mm}
theorem x_setAway (S : SR b σ μ) (B : BW σ) {p : Nat} (hp : p < 6) {a : Int32} {c : Bool} (ha : (a = 0) = (c = false)) : F_Seat_setAway b (nI p) a μ = some (up2 μ b 7 (nI (mset (σ 0 3) p c))) ∧ SR b (awset σ p c) (up2 μ b 7 (nI (mset (σ 0 3) p c))) := by
  refine ⟨?_, SR_mask S⟩
  unfold F_Seat_setAway
  simp only [jn_e, lt_e]
  rw [S.2.2.2.1, mset_1 _ B.2.2.2.1 _ hp, mset_0 _ B.2.2.2.1 _ hp]
  cases c
  · rw [if_pos (ha.mpr rfl)]
  · rw [if_neg (fun h => by have := ha.mp h; cases this)]
theorem x_sits (S : SR b σ μ) (B : BW σ) {p e : Nat} (hp : p < 6) (he : e ≤ 5) : ∃ μ', F_Seat_sits b (nI p) (nI e) μ = some μ' ∧ SR b (sits σ p e) μ' ∧ ∀ c, c ≠ b + 3 → μ' c = μ c := by
  have hs3 := S.2.2.2.2.2.2.2.2.2.1
  unfold F_Seat_sits
  rw [x_wh S B he, Option.bind_some]
  simp only [jn_e]
  cases hw : wh σ e with
  | none =>
    have h1 : whI none < 0 := by decide
    rw [if_pos h1, wrI_nI hp (by omega), Option.bind_some]
    refine ⟨_, rfl, SR_row3 S (fun j hj => ?_) (fun c hc => u_cf hc), fun c hc => u_cf hc⟩
    unfold sitsF
    rw [hw]
    by_cases h : j = p
    · rw [if_pos h, u_eq rfl h]
    · rw [if_neg h, u_nj h]
      exact hs3 j hj
  | some q =>
    have hq := (wh_some hw).1
    have h6 := B.1
    have h1 : ¬ whI (some q) < 0 := nn_not_neg (by omega)
    have e1 : whI (some q) = nI q := rfl
    rw [if_neg h1, rdI_nI hp (by omega), Option.bind_some, e1, wrI_nI (by omega) (by omega), Option.bind_some, wrI_nI hp (by omega), Option.bind_some]
    refine ⟨_, rfl, SR_row3 S (fun j hj => ?_) (fun c hc => by rw [u_cf hc, u_cf hc]), fun c hc => by rw [u_cf hc, u_cf hc]⟩
    unfold sitsF
    rw [hw]
    by_cases h : j = p
    · rw [if_pos h, u_eq rfl h]
    · rw [if_neg h, u_nj h]
      show _ = nI (if j = q then σ 3 p else σ 3 j)
      by_cases h2 : j = q
      · rw [if_pos h2, u_eq rfl h2]
        exact hs3 p hp
      · rw [if_neg h2, u_nj h2]
        exact hs3 j hj
theorem x_moves (S : SR b σ μ) (B : BW σ) {p e : Nat} (hp : p < 6) (he : e ≤ 5) : ∃ μ', F_Seat_moves b (nI p) (nI e) μ = some μ' ∧ SR b (moves σ p e) μ' ∧ (∀ c, c ≠ b + 3 → c ≠ b → μ' c = μ c) ∧ ∀ j, j ≠ 3 → μ' b j = μ b j := by
  obtain ⟨μ1, e1, S1, o1⟩ := x_sits S B hp he
  unfold F_Seat_moves
  rw [e1, Option.bind_some]
  simp only [lt_e]
  refine ⟨_, rfl, SR_wear (v := 0) S1, fun c hc hb => by rw [u_cf hb]; exact o1 c hc, fun j hj => by rw [u_nj hj, o1 b (by omega)]⟩
theorem x_swaps (S : SR b σ μ) {a c : Nat} (ha : a < 6) (hc : c < 6) : ∃ μ', F_Seat_swaps b (nI a) (nI c) μ = some μ' ∧ SR b (swap σ a c) μ' ∧ ∀ d, d ≠ b + 3 → μ' d = μ d := by
  have hs3 := S.2.2.2.2.2.2.2.2.2.1
  unfold F_Seat_swaps
  rw [rdI_nI ha (by omega), Option.bind_some, rdI_nI hc (by omega), Option.bind_some, wrI_nI ha (by omega), Option.bind_some, wrI_nI hc (by omega), Option.bind_some]
  refine ⟨_, rfl, SR_row3 S (fun j hj => ?_) (fun d hd => by rw [u_cf hd, u_cf hd]), fun d hd => by rw [u_cf hd, u_cf hd]⟩
  unfold swapF
  by_cases h : j = c
  · rw [if_pos h, u_eq rfl h]
    exact hs3 a ha
  · rw [if_neg h, u_nj h]
    by_cases h2 : j = a
    · rw [if_pos h2, u_eq rfl h2]
      exact hs3 c hc
    · rw [if_neg h2, u_nj h2]
      exact hs3 j hj
theorem x_wkL {M : Nat} {m : Int32} (hm : ∀ x, x < 1000000000 → (if m > nI x then nI x else m) = nI (min M x)) (B : BW σ) (hk : ∀ p, σ 4 p ≤ 99999990) {z : Nat} (hz : z < 1000000) (k : Mm → Option Mm) : ∀ d j, j + d = σ 0 0 → ∀ n, d < n → ∀ x, x = nI j → ∀ μ, SR b (row σ 4 (kfN M σ z j)) μ → ∃ μ', L_Seat_weekGoes_8 b m (nI z) k n x μ = k μ' ∧ SR b (row σ 4 (kfN M σ z (σ 0 0))) μ' ∧ ∀ c, c ≠ b + 4 → μ' c = μ c := by
  have h6 := B.1
  intro d
  induction d with
  | zero =>
    intro j hj n hn x hx μ S
    subst hx
    obtain ⟨n', rfl⟩ : ∃ m, n = m + 1 := ⟨n - 1, by omega⟩
    have hj0 : j = σ 0 0 := by omega
    rw [hj0] at S
    refine ⟨μ, ?_, S, fun _ _ => rfl⟩
    have s1 : μ b 1 = nI (σ 0 0) := S.1
    rw [L_Seat_weekGoes_8, s1, ite_le (by omega) (by omega), if_pos (by omega)]
  | succ d ih =>
    intro j hj n hn x hx μ S
    subst hx
    obtain ⟨n', rfl⟩ : ∃ m, n = m + 1 := ⟨n - 1, by omega⟩
    have s1 : μ b 1 = nI (σ 0 0) := S.1
    have s4 : μ (b + 4) j = nI (σ 4 j) := by
      have := S.2.2.2.2.2.2.2.2.2.2.1 j (by omega)
      have e : row σ 4 (kfN M σ z j) 4 j = σ 4 j := by
        show kfN M σ z j j = σ 4 j
        unfold kfN
        rw [if_neg (by omega)]
      rw [e] at this
      exact this
    have B' : BW (row σ 4 (kfN M σ z j)) := BW_row4 B (kfN_le B hk)
    have hl : F_Seat_learns b (nI j) (nI z) μ = some (nI (ln σ j z)) := x_learns S B' (by omega) hz
    have hkj := hk j
    have hlj := ln_le σ j z
    obtain ⟨μ', e1, e2, e3⟩ := ih (j + 1) (by omega) n' (by omega) _ rfl (up2 μ (b + 4) j (nI (min M (σ 4 j + ln σ j z)))) (by
      have h := SR_row4 (f := kfN M σ z (j + 1)) S (μ' := up2 μ (b + 4) j (nI (min M (σ 4 j + ln σ j z)))) (fun p hp => ?_) (fun c hc => u_cf hc)
      · rw [row_row] at h
        exact h
      · by_cases h : p = j
        · rw [u_eq rfl h]
          unfold kfN
          rw [if_pos (by omega), h]
        · rw [u_nj h]
          have := S.2.2.2.2.2.2.2.2.2.2.1 p hp
          rw [this]
          show nI (kfN M σ z j p) = _
          unfold kfN
          by_cases h2 : p < j
          · rw [if_pos h2, if_pos (by omega)]
          · rw [if_neg h2, if_neg (by omega)])
    refine ⟨μ', ?_, e2, fun c hc => by rw [e3 c hc, u_cf hc]⟩
    rw [L_Seat_weekGoes_8, s1, ite_le (by omega) (by omega), if_neg (by omega), rdI_nI (by omega) (by omega), Option.bind_some, s4, hl, Option.bind_some, nI_add]
    simp only [lt_e]
    rw [hm _ (by omega), wrI_nI (by omega) (by omega), Option.bind_some, nI_1]
    exact e1
theorem x_wk {M : Nat} {m : Int32} (hm : ∀ x, x < 1000000000 → (if m > nI x then nI x else m) = nI (min M x)) (S : SR b σ μ) (B : BW σ) (hk : ∀ p, σ 4 p ≤ 99999990) : ∃ μ', F_Seat_weekGoes b m μ = some μ' ∧ SR b (wk M σ) μ' ∧ (∀ c, c ≠ b + 4 → c ≠ b → μ' c = μ c) ∧ ∀ j, j ≠ 2 → j ≠ 3 → μ' b j = μ b j := by
  have hz : ns σ 0 < 1000000 := by have := ns_le B 0; omega
  have hn : F_Seat_noise b 0 μ = some (nI (ns σ 0)) := x_noise S B (t := 0) (by omega)
  have h0 : row σ 4 (kfN M σ (ns σ 0) 0) = σ := by
    funext a
    by_cases ha : a = 4
    · subst ha
      funext p
      show kfN M σ (ns σ 0) 0 p = σ 4 p
      unfold kfN
      rw [if_neg (by omega)]
    · show (if a = 4 then _ else σ a) = σ a
      rw [if_neg ha]
  unfold F_Seat_weekGoes
  rw [hn, Option.bind_some]
  obtain ⟨μ1, e1, S1, o1⟩ := x_wkL (b := b) hm B hk hz (fun (μ13 : Mm) => lt_ (if 99 > ((μ13 b 3) + 1) then ((μ13 b 3) + 1) else 99) fun x14 => lt_ (up2 μ13 b 3 x14) fun μ15 => lt_ (up2 μ15 b 2 ((μ15 b 2) + 1)) fun μ16 => some μ16) (σ 0 0) 0 (by omega) fu (fu_gt (by have := B.1; omega)) 0 rfl μ (by rw [h0]; exact S)
  rw [e1]
  simp only [lt_e]
  have s3 : μ1 b 3 = nI (σ 0 2) := S1.2.2.1
  have s2 : μ1 b 2 = nI (σ 0 1) := S1.2.1
  have hw := B.2.2.1
  have hwk := B.2.1
  refine ⟨_, rfl, ?_, fun c hc hb => by rw [u_cf hb, u_cf hb]; exact o1 c hc, fun j h2 h3 => by rw [u_nj h2, u_nj h3, o1 b (by omega)]⟩
  rw [u_nj (by omega), s3, s2, nI_1, nI_1, q99, x_min (by omega) (by omega)]
  exact SR_week (SR_wear S1)
theorem m_9999 : ∀ x, x < 1000000000 → (if (9999 : Int32) > nI x then nI x else 9999) = nI (min 9999 x) := fun x hx => by
  rw [q9999]
  exact x_min (by omega) (by omega)
theorem m_max : ∀ x, x < 1000000000 → (if (1000000000 : Int32) > nI x then nI x else 1000000000) = nI (min 1000000000 x) := fun x hx => by
  have e : (1000000000 : Int32) = nI 1000000000 := rfl
  rw [e]
  exact x_min (by omega) (by omega)
/-- all that is HEARD is so -/
def isH (σ : Sg) : Nat → Bool
  | 0 => true
  | n + 1 => isH σ n && decide (ns σ (σ 9 n) = σ 8 n)
def isHf (σ : Sg) : Nat → Nat → Bool
  | 0, _ => true
  | n + 1, j => decide (ns σ (σ 9 j) = σ 8 j) && isHf σ n (j + 1)
def hrd (σ : Sg) : Bool := isHf σ (σ 7 0) 0
theorem x_hrdL (S : SR b σ μ) (X : SX b σ μ) (B : BW σ) (BX' : BX σ) (hr : rlen (b + 7) = 5) : ∀ d j, j + d = σ 7 0 → ∀ n, d < n → ∀ x, x = nI j → L_Seat_isAsHeard_2 b μ (fun _ => some 1) n x = some (b2i (isHf σ d j)) := by
  have h5 := BX'.1
  intro d
  induction d with
  | zero =>
    intro j hj n hn x hx
    subst hx
    obtain ⟨m, rfl⟩ : ∃ m, n = m + 1 := ⟨n - 1, by omega⟩
    rw [L_Seat_isAsHeard_2, X.1.1, ite_le (by omega) (by omega), if_pos (by omega)]
    rfl
  | succ d ih =>
    intro j hj n hn x hx
    subst hx
    obtain ⟨m, rfl⟩ : ∃ m, n = m + 1 := ⟨n - 1, by omega⟩
    have h1 := X.1.2 j (by omega)
    have hh : σ 8 j ≤ 999 := BX'.2.2.2.1 j
    have hw : σ 9 j ≤ 20 := BX'.2.2.2.2.1 j
    have hns := ns_le B (σ 9 j)
    have e1 : b + 7 + 1 = b + 8 := by omega
    have e2 : b + 7 + 2 = b + 9 := by omega
    rw [L_Seat_isAsHeard_2, X.1.1, ite_le (by omega) (by omega), if_neg (by omega), hr, e1, e2, rdI_nI (by omega) (by omega), Option.bind_some, h1.2, x_noise S B (by omega), Option.bind_some, rdI_nI (by omega) (by omega), Option.bind_some, h1.1, ite_eq (by omega) (by omega), nI_1]
    show _ = some (b2i (decide (ns σ (σ 9 j) = σ 8 j) && isHf σ d (j + 1)))
    by_cases h : ns σ (σ 9 j) = σ 8 j
    · rw [if_pos h, decide_eq_true h]
      exact ih (j + 1) (by omega) m (by omega) _ rfl
    · rw [if_neg h, decide_eq_false h]
      rfl
theorem x_hrd (S : SR b σ μ) (X : SX b σ μ) (B : BW σ) (BX' : BX σ) (hr : rlen (b + 7) = 5) : F_Seat_isAsHeard b μ = some (b2i (hrd σ)) := x_hrdL S X B BX' hr (σ 7 0) 0 (by omega) fu (fu_gt (by have := BX'.1; omega)) 0 rfl
end XO
