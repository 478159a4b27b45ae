/-! what is tried out and put back -/
def MY (μ μ1 : Mm) : Prop := (∀ c, (c ≠ 0 ∧ c ≠ 6 ∧ c ≠ 7 ∧ c ≠ 26 ∧ c ≠ 31 ∧ c ≠ 32 ∧ c ≠ 33) → μ1 c = μ c) ∧ ∀ j, (j = 0 ∨ (3 < j ∧ j ≠ 27 ∧ j ≠ 28 ∧ j ≠ 29 ∧ j ≠ 30)) → μ1 0 j = μ 0 j
theorem MY.rf {μ : Mm} : MY μ μ := ⟨fun _ _ => rfl, fun _ _ => rfl⟩
theorem MY.tr {μ μ1 μ2 : Mm} (h1 : MY μ μ1) (h2 : MY μ1 μ2) : MY μ μ2 := ⟨fun c h => (h2.1 c h).trans (h1.1 c h), fun j h => (h2.2 j h).trans (h1.2 j h)⟩
theorem MY.p26 {μ μ1 : Mm} (h : P26 μ μ1) : MY μ μ1 := ⟨fun c hc => h c (by omega), fun j _ => by rw [h 0 (by omega)]⟩
theorem MY.mk2 {μ μ1 : Mm} (g : ∀ c, c ≠ 0 → c ≠ 6 → c ≠ 7 → c ≠ 26 → μ1 c = μ c) (g0 : ∀ j, (j = 0 ∨ 3 < j) → μ1 0 j = μ 0 j) : MY μ μ1 := ⟨fun c hc => g c (by omega) (by omega) (by omega) (by omega), fun j hj => g0 j (by omega)⟩
theorem MK.my {rs : Rsp} {μ μ1 : Mm} (K : MK rs μ) (h : MY μ μ1) : MK rs μ1 := K.mv (h.2 10 (by omega)) (fun c a b => h.1 c (by omega))
theorem MX.my {σ : Sg} {μ μ1 : Mm} (S : MX σ μ) (h : MY μ μ1) : MX σ μ1 := by
  unfold MX
  rw [h.2 10 (by omega), h.2 34 (by omega), h.2 37 (by omega), h.2 38 (by omega), h.1 35 (by omega), h.1 36 (by omega), h.1 39 (by omega), h.1 40 (by omega), h.1 41 (by omega), h.1 42 (by omega)]
  exact S
theorem Kpt.mv {σ : Sg} {μ μ1 : Mm} (K : Kpt σ μ) (g : ∀ c, c = 31 ∨ c = 32 → μ1 c = μ c) (g0 : ∀ j, j = 28 ∨ j = 29 ∨ j = 30 → μ1 0 j = μ 0 j) : Kpt σ μ1 := by
  unfold Kpt
  rw [g 31 (by omega), g 32 (by omega), g0 28 (by omega), g0 29 (by omega), g0 30 (by omega)]
  exact K
/-- tried out from σ0: σ holds now -/
def MT (σ0 σ : Sg) (μ0 μ : Mm) : Prop := MR σ μ ∧ Kpt σ0 μ ∧ μ 0 27 = nI 2000000000 ∧ MY μ0 μ
theorem MT.save {σ : Sg} {μ : Mm} (S : MR σ μ) : ∃ μ1, F_M_save μ = some μ1 ∧ MT σ σ μ μ1 := by
  obtain ⟨μ1, e, a, b, c, d, f⟩ := m_save S
  exact ⟨μ1, e, a, b, c, fun x hx => d x (by omega) (by omega) (by omega), fun j hj => f j (by omega)⟩
theorem MT.step {σ0 σ σ1 : Sg} {μ0 μ μ1 : Mm} (T : MT σ0 σ μ0 μ) (S1 : MR σ1 μ1) (g : ∀ c, c ≠ 0 → c ≠ 6 → c ≠ 7 → c ≠ 26 → μ1 c = μ c) (g0 : ∀ j, (j = 0 ∨ 3 < j) → μ1 0 j = μ 0 j) : MT σ0 σ1 μ0 μ1 :=
  ⟨S1, T.2.1.mv (fun c hc => g c (by omega) (by omega) (by omega) (by omega)) (fun j hj => g0 j (by omega)), (g0 27 (by omega)).trans T.2.2.1, T.2.2.2.tr (MY.mk2 g g0)⟩
theorem MT.p26 {σ0 σ : Sg} {μ0 μ μ1 : Mm} (T : MT σ0 σ μ0 μ) (h : P26 μ μ1) : MT σ0 σ μ0 μ1 := T.step (T.1.p26 h) (fun c _ _ _ hc => h c hc) (fun j _ => by rw [h 0 (by omega)])
/-- what never changes while something is tried out -/
def SB (σ0 σ : Sg) : Prop := (∀ j, (j = 0 ∨ 3 < j) → σ 0 j = σ0 0 j) ∧ ∀ i, 0 < i → i ≠ 3 → i ≠ 4 → σ i = σ0 i
theorem SB.rf {σ : Sg} : SB σ σ := ⟨fun _ _ => rfl, fun _ _ _ _ => rfl⟩
theorem SB.tr {σ σ1 σ2 : Sg} (h1 : SB σ σ1) (h2 : SB σ1 σ2) : SB σ σ2 := ⟨fun j h => (h2.1 j h).trans (h1.1 j h), fun i a b c => (h2.2 i a b c).trans (h1.2 i a b c)⟩
theorem SB.ups {σ : Sg} {j v : Nat} (h : j = 1 ∨ j = 2 ∨ j = 3) : SB σ (ups σ 0 j v) := ⟨fun k hk => if_neg (by omega), fun i hi _ _ => funext fun k => if_neg (by omega)⟩
theorem SB.row {σ : Sg} {i : Nat} {f : Nat → Nat} (h : i = 3 ∨ i = 4) : SB σ (row σ i f) := ⟨fun k hk => by show (if 0 = i then f else σ 0) k = σ 0 k; rw [if_neg (by omega)], fun j a b c => if_neg (by omega)⟩
theorem SB.sits {σ : Sg} {p d : Nat} : SB σ (sits σ p d) := SB.row (by omega)
theorem SB.moves {σ : Sg} {p d : Nat} : SB σ (moves σ p d) := SB.sits.tr (SB.ups (by omega))
theorem SB.swap {σ : Sg} {a c : Nat} : SB σ (swap σ a c) := SB.row (by omega)
theorem SB.awset {σ : Sg} {p : Nat} {c : Bool} : SB σ (awset σ p c) := SB.ups (by omega)
theorem SB.wk {σ : Sg} {M : Nat} : SB σ (wk M σ) := ((SB.row (by omega)).tr (SB.ups (by omega))).tr (SB.ups (by omega))
theorem MO.sb {rs : Rsp} {σ0 σ : Sg} (O : MO rs σ0) (h : SB σ0 σ) : MO rs σ := by
  unfold MO
  rw [h.1 4 (by omega), h.1 5 (by omega), h.1 0 (by omega), h.2 6 (by omega) (by omega) (by omega), h.2 1 (by omega) (by omega) (by omega), h.2 2 (by omega) (by omega) (by omega)]
  exact O
theorem BX.sb {σ0 σ : Sg} (O : BX σ0) (h : SB σ0 σ) : BX σ := by
  unfold BX
  rw [h.2 7 (by omega) (by omega) (by omega), h.2 10 (by omega) (by omega) (by omega), h.2 13 (by omega) (by omega) (by omega), h.2 8 (by omega) (by omega) (by omega), h.2 9 (by omega) (by omega) (by omega), h.2 11 (by omega) (by omega) (by omega), h.2 12 (by omega) (by omega) (by omega), h.2 14 (by omega) (by omega) (by omega), h.2 15 (by omega) (by omega) (by omega), h.2 16 (by omega) (by omega) (by omega)]
  exact O
theorem MX.sb {σ0 σ : Sg} {μ : Mm} (X : MX σ0 μ) (h : SB σ0 σ) : MX σ μ := by
  unfold MX
  rw [h.2 7 (by omega) (by omega) (by omega), h.2 10 (by omega) (by omega) (by omega), h.2 13 (by omega) (by omega) (by omega), h.2 8 (by omega) (by omega) (by omega), h.2 9 (by omega) (by omega) (by omega), h.2 11 (by omega) (by omega) (by omega), h.2 12 (by omega) (by omega) (by omega), h.2 14 (by omega) (by omega) (by omega), h.2 15 (by omega) (by omega) (by omega), h.2 16 (by omega) (by omega) (by omega)]
  exact X
theorem SX.sb {b : Nat} {σ0 σ : Sg} {μ : Mm} (X : SX b σ0 μ) (h : SB σ0 σ) : SX b σ μ := by
  unfold SX
  rw [h.2 7 (by omega) (by omega) (by omega), h.2 10 (by omega) (by omega) (by omega), h.2 13 (by omega) (by omega) (by omega), h.2 8 (by omega) (by omega) (by omega), h.2 9 (by omega) (by omega) (by omega), h.2 11 (by omega) (by omega) (by omega), h.2 12 (by omega) (by omega) (by omega), h.2 14 (by omega) (by omega) (by omega), h.2 15 (by omega) (by omega) (by omega), h.2 16 (by omega) (by omega) (by omega)]
  exact X
theorem SX.keep {b : Nat} {σ : Sg} {μ μ1 : Mm} (X : SX b σ μ) (g : ∀ c, b + 7 ≤ c → c ≤ b + 15 → μ1 c = μ c) (g0 : μ1 b 6 = μ b 6) : SX b σ μ1 := by
  unfold SX
  rw [g0, g (b + 7) (by omega) (by omega), g (b + 8) (by omega) (by omega), g (b + 9) (by omega) (by omega), g (b + 10) (by omega) (by omega), g (b + 11) (by omega) (by omega), g (b + 12) (by omega) (by omega), g (b + 13) (by omega) (by omega), g (b + 14) (by omega) (by omega), g (b + 15) (by omega) (by omega)]
  exact X
theorem MT.back {σ0 σ : Sg} {μ0 μ : Mm} (T : MT σ0 σ μ0 μ) (h : SB σ0 σ) : ∃ μ1, F_M_putBack μ = some μ1 ∧ MR σ0 μ1 ∧ μ1 0 27 = 9999 ∧ MY μ0 μ1 := by
  obtain ⟨T1, T2, T3, T4⟩ := T
  have hb : BR σ0 μ := by
    have e1 := h.2 1 (by omega) (by omega) (by omega)
    have e2 := h.2 2 (by omega) (by omega) (by omega)
    have e5 := h.2 5 (by omega) (by omega) (by omega)
    unfold MR at T1
    rw [h.1 0 (by omega), e1, e2, e5] at T1
    exact ⟨T1.1, T1.2.2.2.2.1, T1.2.2.2.2.2.1, T1.2.2.2.2.2.2.2.2⟩
  obtain ⟨μ1, e, a, b, c, d⟩ := m_back hb T2
  exact ⟨μ1, e, a, b, T4.tr ⟨fun x hx => c x (by omega) (by omega) (by omega), fun j hj => d j (by omega) (by omega)⟩⟩
theorem MT.moves {σ0 σ : Sg} {μ0 μ : Mm} (T : MT σ0 σ μ0 μ) (B : BW σ) {p e : Nat} (hp : p < 6) (he : e ≤ 5) : ∃ μ1, F_M_moves (nI p) (nI e) μ = some μ1 ∧ MT σ0 (moves σ p e) μ0 μ1 := by
  obtain ⟨μ1, e1, a, b, c⟩ := m_moves T.1 B hp he
  exact ⟨μ1, e1, T.step a (fun c h0 h6 _ _ => b c h6 h0) (fun j hj => c j (by omega))⟩
theorem MT.sits {σ0 σ : Sg} {μ0 μ : Mm} (T : MT σ0 σ μ0 μ) (B : BW σ) {p e : Nat} (hp : p < 6) (he : e ≤ 5) : ∃ μ1, F_M_takesDesk (nI p) (nI e) μ = some μ1 ∧ MT σ0 (sits σ p e) μ0 μ1 := by
  obtain ⟨μ1, e1, a, b⟩ := m_sits T.1 B hp he
  exact ⟨μ1, e1, T.step a (fun c h0 h6 _ _ => b c h6) (fun j hj => by rw [b 0 (by omega)])⟩
theorem MT.goes {σ0 σ : Sg} {μ0 μ : Mm} (T : MT σ0 σ μ0 μ) (B : BW σ) {p : Nat} (hp : p < 6) {a : Int32} {c : Bool} (ha : (a = 0) = (c = false)) : ∃ μ1, F_M_goes (nI p) a μ = some μ1 ∧ MT σ0 (awset σ p c) μ0 μ1 := by
  obtain ⟨e1, S⟩ := m_goes T.1 B hp ha
  exact ⟨_, e1, T.step S (fun c h0 _ _ _ => u_cf h0) (fun j hj => u_nj (by omega))⟩
theorem MT.wk {rs : Rsp} {σ0 σ : Sg} {μ0 μ : Mm} (T : MT σ0 σ μ0 μ) (K : MK rs μ0) (O : MO rs σ) (B : BW σ) (hk : ∀ p, σ 4 p ≤ 99999990) : ∃ μ1, F_M_goWeek μ = some μ1 ∧ MT σ0 (wk 2000000000 σ) μ0 μ1 := by
  obtain ⟨μ1, e1, a, b, c⟩ := m_wk (M := 2000000000) (by omega) T.1 (K.my T.2.2.2) O B hk T.2.2.1
  exact ⟨μ1, e1, T.step a (fun c h0 _ h7 h26 => b c h7 h0 h26) (fun j hj => c j (by omega) (by omega))⟩
theorem MT.noise {rs : Rsp} {σ0 σ : Sg} {μ0 μ : Mm} (T : MT σ0 σ μ0 μ) (K : MK rs μ0) (O : MO rs σ) (B : BW σ) : ∃ μ1, F_M_noise μ = some (nI (ns σ 0), μ1) ∧ MT σ0 σ μ0 μ1 := by
  obtain ⟨μ1, e1, h⟩ := m_noise T.1 (K.my T.2.2.2) O B
  exact ⟨μ1, e1, T.p26 h⟩
/-- the class tries out at 60 -/
def XT (σ : Sg) (μ0 μ : Mm) : Prop := SR 60 σ μ ∧ SX 60 σ μ ∧ Off 60 75 μ0 μ
theorem XT.start {σ : Sg} {μ0 μ : Mm} (S : SR 40 σ μ0) (X : SX 40 σ μ0) (B : BX σ) (h : Off 60 75 μ0 μ) : ∃ μ1, F_Seat_becomes 60 40 μ = some μ1 ∧ XT σ μ0 μ1 := by
  obtain ⟨μ1, e1, o, s, x⟩ := x_becomes (b := 60) (c := 40) (by omega) ⟨⟨rfl, rfl⟩, ⟨rfl, rfl⟩, rfl, rfl⟩ (S.off h (by omega)) (X.off h (by omega)) B
  exact ⟨μ1, e1, s, x, h.tr o⟩
theorem XT.step {σ σ1 : Sg} {μ0 μ μ1 : Mm} (T : XT σ μ0 μ) (hb : SB σ σ1) (S1 : SR 60 σ1 μ1) (g : ∀ c, c ≠ 60 → c ≠ 63 → c ≠ 64 → μ1 c = μ c) (g0 : μ1 60 6 = μ 60 6) : XT σ1 μ0 μ1 :=
  ⟨S1, (T.2.1.sb hb).keep (fun c _ _ => g c (by omega) (by omega) (by omega)) g0, fun c hc => (g c (by omega) (by omega) (by omega)).trans (T.2.2 c hc)⟩
theorem XT.moves {σ : Sg} {μ0 μ : Mm} (T : XT σ μ0 μ) (B : BW σ) {p e : Nat} (hp : p < 6) (he : e ≤ 5) : ∃ μ1, F_Seat_moves 60 (nI p) (nI e) μ = some μ1 ∧ XT (moves σ p e) μ0 μ1 := by
  obtain ⟨μ1, e1, a, b, c⟩ := x_moves T.1 B hp he
  exact ⟨μ1, e1, T.step SB.moves a (fun c h0 h3 _ => b c h3 h0) (c 6 (by omega))⟩
theorem XT.sits {σ : Sg} {μ0 μ : Mm} (T : XT σ μ0 μ) (B : BW σ) {p e : Nat} (hp : p < 6) (he : e ≤ 5) : ∃ μ1, F_Seat_sits 60 (nI p) (nI e) μ = some μ1 ∧ XT (sits σ p e) μ0 μ1 := by
  obtain ⟨μ1, e1, a, b⟩ := x_sits T.1 B hp he
  exact ⟨μ1, e1, T.step SB.sits a (fun c h0 h3 _ => b c h3) (by rw [b 60 (by omega)])⟩
theorem XT.swaps {σ : Sg} {μ0 μ : Mm} (T : XT σ μ0 μ) {a c : Nat} (ha : a < 6) (hc : c < 6) : ∃ μ1, F_Seat_swaps 60 (nI a) (nI c) μ = some μ1 ∧ XT (swap σ a c) μ0 μ1 := by
  obtain ⟨μ1, e1, s, b⟩ := x_swaps T.1 ha hc
  exact ⟨μ1, e1, T.step SB.swap s (fun c h0 h3 _ => b c h3) (by rw [b 60 (by omega)])⟩
theorem XT.goes {σ : Sg} {μ0 μ : Mm} (T : XT σ μ0 μ) (B : BW σ) {p : Nat} (hp : p < 6) {a : Int32} {c : Bool} (ha : (a = 0) = (c = false)) : ∃ μ1, F_Seat_setAway 60 (nI p) a μ = some μ1 ∧ XT (awset σ p c) μ0 μ1 := by
  obtain ⟨e1, S⟩ := x_setAway T.1 B hp ha
  exact ⟨_, e1, T.step SB.awset S (fun c h0 _ _ => u_cf h0) (u_nj (by omega))⟩
theorem XT.wk {σ : Sg} {μ0 μ : Mm} (T : XT σ μ0 μ) (B : BW σ) (hk : ∀ p, σ 4 p ≤ 99999990) : ∃ μ1, F_Seat_weekGoes 60 1000000000 μ = some μ1 ∧ XT (wk 1000000000 σ) μ0 μ1 := by
  obtain ⟨μ1, e1, a, b, c⟩ := x_wk m_max T.1 B hk
  exact ⟨μ1, e1, T.step SB.wk a (fun c h0 _ h4 => b c h4 h0) (c 6 (by omega) (by omega))⟩
theorem XT.noise {σ : Sg} {μ0 μ : Mm} (T : XT σ μ0 μ) (B : BW σ) : F_Seat_noise 60 0 μ = some (nI (ns σ 0)) := x_noise T.1 B (t := 0) (by omega)
theorem XT.wear0 {σ : Sg} {μ0 μ : Mm} (T : XT σ μ0 μ) : XT (ups σ 0 2 0) μ0 (up2 μ 60 3 0) := T.step (SB.ups (by omega)) (SR_wear (v := 0) T.1) (fun c h0 _ _ => u_cf h0) (u_nj (by omega))
theorem Inv.ask {μ μ' μ1 μ1' : Mm} {ν ν' : Ml} {n L : Nat} {rsf : Nat → Rsp} {tx : Nat → Nat} {σ τ : Sg} {im : Bool} (h1 : RR n rsf μ μ') (h2 : TX n L tx μ μ') (hs : SR 40 σ μ ∧ SX 40 σ μ ∧ MR σ μ' ∧ MX σ μ' ∧ GS n rsf σ) (h8 : IM n rsf im τ μ μ') (h9 : TR μ μ') (h10 : TP μ ν μ' ν') (h11 : LT μ') (h12 : μ' 0 27 = 9999) (hx : Off 60 75 μ μ1) (hm : MY μ' μ1') (hr : MR σ μ1') (h27 : μ1' 0 27 = 9999) : Inv μ1 ν μ1' ν' := by
  have k : Inv μ ν μ1' ν' := Inv.now h1 h2 h8 h9 h10 h11 h12 Off.rf ⟨fun c hc => hm.1 c (by omega), fun j hj => by
    by_cases h : j = 27
    · rw [h, h27, h12]
    · exact hm.2 j (by omega)⟩ ⟨hs.1, hs.2.1, hr, hs.2.2.2.1.my hm, hs.2.2.2.2⟩
  exact k.j (XJ.off hx) MJ.rf
/-- weeks are the same under both caps -/
theorem wk_cap {σ : Sg} (hk : ∀ p, σ 4 p ≤ 99999990) : wk 1000000000 σ = wk 2000000000 σ := by
  have h : kfN 1000000000 σ (ns σ 0) (σ 0 0) = kfN 2000000000 σ (ns σ 0) (σ 0 0) := funext fun p => by
    unfold kfN
    have := hk p
    have := ln_le σ p (ns σ 0)
    split
    · omega
    · rfl
  unfold wk
  rw [h]
theorem wk_4 {M : Nat} {σ : Sg} {p B : Nat} (h : σ 4 p ≤ B) : wk M σ 4 p ≤ B + 10 := by
  show (if p < σ 0 0 then min M (σ 4 p + ln σ p (ns σ 0)) else σ 4 p) ≤ B + 10
  have := ln_le σ p (ns σ 0)
  split <;> omega
