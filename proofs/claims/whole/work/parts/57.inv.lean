/-! the relation of the two memories -/
def rs0 : Rsp := (3, 4, fun _ _ _ _ => 3)
def RB (rs : Rsp) : Prop := (1 ≤ rs.1 ∧ rs.1 ≤ 99) ∧ (1 ≤ rs.2.1 ∧ rs.2.1 ≤ 99) ∧ ∀ p d kd v, rs.2.2 p d kd v ≤ 1000
/-- the class's text of the room i reads as rs -/
def XKr (i : Nat) (rs : Rsp) (μ : Mm) : Prop := ∀ (μ' : Mm) (b p d kd v : Nat), b ∈ seats → μ' (3 + i) = μ (3 + i) → μ' 10 i = μ 10 i → p < 6 → d < 6 → kd ≤ 6 → v ≤ 9 → μ' (b + 1) p = nI kd → μ' (b + 2) p = nI v → ∃ μ'', F_Rooms_reads (nI i) b (nI p) (nI d) μ' = some (-1, μ'') ∧ μ'' 1 11 = nI (rs.2.2 p d kd v) ∧ μ'' 1 12 = nI rs.1 ∧ μ'' 1 13 = nI rs.2.1 ∧ (∀ c, c ≠ 1 → μ'' c = μ' c) ∧ μ'' 1 2 = μ' 1 2
/-- the reference's tables of the room i say rs -/
def MKi (i : Nat) (rs : Rsp) (μ : Mm) : Prop := ∀ μ' : Mm, μ' 0 10 = nI i → μ' 15 i = μ 15 i → (∀ c k, 16 ≤ c → c ≤ 19 → 10 * i ≤ k → k < 10 * i + 10 → μ' c k = μ c k) → (∀ k, 100 * i ≤ k → k < 100 * i + 100 → μ' 20 k = μ 20 k) → F_M_wears μ' = some (nI rs.1) ∧ F_M_cost μ' = some (nI rs.2.1) ∧ ∀ p d kd v, p < 6 → d < 6 → kd ≤ 6 → v ≤ 9 → μ' 4 p = nI kd → μ' 5 p = nI v → ∃ μ'', F_M_mouth (nI p) (nI d) μ' = some (nI (rs.2.2 p d kd v), μ'') ∧ P26 μ' μ''
/-- the rooms: how many, their meanings, the text -/
def RR (n : Nat) (rsf : Nat → Rsp) (μ μ' : Mm) : Prop := n ≤ 6 ∧ μ 1 2 = nI n ∧ μ' 0 9 = nI n ∧ ∀ i, i < n → RB (rsf i) ∧ XKr i (rsf i) μ ∧ MKi i (rsf i) μ'
def TX (n L : Nat) (tx : Nat → Nat) (μ μ' : Mm) : Prop := (L ≤ 100 ∧ ∀ r, n < r → r ≤ 6 → μ 10 r = 0) ∧ μ 10 n = nI L ∧ μ' 0 11 = nI L ∧ ∀ j, j < L → tx j < 128 ∧ μ (3 + n) j = nI (tx j) ∧ μ' 14 j = nI (tx j)
def rsH (rsf : Nat → Rsp) : Nat → Rsp
  | 0 => rs0
  | n + 1 => rsf n
/-- no two sit at one desk -/
def DI (σ : Sg) : Prop := ∀ p q, p < σ 0 0 → q < σ 0 0 → σ 3 p = σ 3 q → p = q
/-- a room's people and what goes with them -/
def GS (n : Nat) (rsf : Nat → Rsp) (σ : Sg) : Prop := BW σ ∧ BX σ ∧ MO (rsH rsf (σ 16 0)) σ ∧ σ 16 0 ≤ n ∧ (∀ p, σ 4 p ≤ 9999) ∧ DI σ ∧ σ 0 1 ≤ 9999
def MX (σ : Sg) (μ : Mm) : Prop := μ 0 10 = hdI (σ 16 0) ∧ (μ 0 34 = nI (σ 7 0) ∧ ∀ i, i < σ 7 0 → μ 35 i = nI (σ 8 i) ∧ μ 36 i = nI (σ 9 i)) ∧ (μ 0 37 = nI (σ 10 0) ∧ ∀ i, i < σ 10 0 → μ 39 i = nI (σ 11 i) ∧ (σ 11 i ≠ 0 → μ 40 i = nI (σ 12 i))) ∧ (μ 0 38 = nI (σ 13 0) ∧ ∀ i, i < σ 13 0 → μ 41 i = nI (σ 14 i) ∧ μ 42 i = nI (σ 15 i))
/-- the reference's image -/
def MI (σ : Sg) (μ : Mm) : Prop := μ 0 44 = hdI (σ 16 0) ∧ μ 0 45 = nI (σ 0 0) ∧ μ 0 46 = nI (σ 0 3) ∧ μ 0 47 = nI (σ 0 2) ∧ μ 0 48 = nI (σ 0 1) ∧ (∀ p, p < 6 → μ 52 p = nI (σ 1 p) ∧ μ 53 p = nI (σ 2 p) ∧ μ 54 p = nI (σ 3 p) ∧ μ 55 p = nI (σ 4 p)) ∧ (∀ i, i < 24 → μ 56 i = nI (σ 5 i)) ∧ (μ 0 49 = nI (σ 7 0) ∧ ∀ i, i < σ 7 0 → μ 57 i = nI (σ 8 i) ∧ μ 58 i = nI (σ 9 i)) ∧ (μ 0 50 = nI (σ 10 0) ∧ ∀ i, i < σ 10 0 → μ 59 i = nI (σ 11 i) ∧ (σ 11 i ≠ 0 → μ 60 i = nI (σ 12 i))) ∧ (μ 0 51 = nI (σ 13 0) ∧ ∀ i, i < σ 13 0 → μ 61 i = nI (σ 14 i) ∧ μ 62 i = nI (σ 15 i))
def IM (n : Nat) (rsf : Nat → Rsp) (im : Bool) (τ : Sg) (μ μ' : Mm) : Prop := μ 0 3 = b2i im ∧ μ' 0 43 = b2i im ∧ (im = true → SR 80 τ μ ∧ SX 80 τ μ ∧ MI τ μ' ∧ GS n rsf τ)
def TR (μ μ' : Mm) : Prop := ∃ k, k ≤ 30 ∧ μ 11 1 = nI k ∧ μ' 0 63 = nI k ∧ ∀ j, j < k → j < 20 → μ 12 j = μ' 64 j
def TP (μ : Mm) (ν : Ml) (μ' : Mm) (ν' : Ml) : Prop := ∀ t, t < 6 → μ' 65 t = μ 21 t ∧ (μ 21 t = -1 ∨ ∃ k, k ≤ 4 ∧ μ 21 t = nI k) ∧ ∃ s, s ≤ 60 ∧ μ 22 t = nI s ∧ μ' 66 t = nI s ∧ (μ 21 t = -1 → s = 0) ∧ ∀ j, j < s → ν' 67 (60 * t + j) = ν (15 + t) j
def LT (μ' : Mm) : Prop := ∀ i, i < 16 → μ' 25 i = wordT i
/-- all of it -/
def Inv (μ : Mm) (ν : Ml) (μ' : Mm) (ν' : Ml) : Prop := ∃ (n : Nat) (rsf : Nat → Rsp) (L : Nat) (tx : Nat → Nat) (σ τ : Sg) (im : Bool), RR n rsf μ μ' ∧ TX n L tx μ μ' ∧ (SR 40 σ μ ∧ SX 40 σ μ ∧ MR σ μ' ∧ MX σ μ' ∧ GS n rsf σ) ∧ IM n rsf im τ μ μ' ∧ TR μ μ' ∧ TP μ ν μ' ν' ∧ LT μ' ∧ μ' 0 27 = 9999
/-! what a question leaves as it was -/
def XJ (μ μ1 : Mm) : Prop := (∀ c, c ≠ 1 → c ≠ 13 → (c < 60 ∨ 75 < c) → μ1 c = μ c) ∧ μ1 1 2 = μ 1 2
def MJ (μ μ1 : Mm) : Prop := (∀ c, c ≠ 0 → c ≠ 26 → c ≠ 31 → c ≠ 32 → c ≠ 33 → μ1 c = μ c) ∧ ∀ j, (j < 28 ∨ 30 < j) → μ1 0 j = μ 0 j
theorem XJ.rf {μ : Mm} : XJ μ μ := ⟨fun _ _ _ _ => rfl, rfl⟩
theorem XJ.tr {μ μ1 μ2 : Mm} (h1 : XJ μ μ1) (h2 : XJ μ1 μ2) : XJ μ μ2 := ⟨fun c a b d => (h2.1 c a b d).trans (h1.1 c a b d), h2.2.trans h1.2⟩
theorem XJ.off {μ μ1 : Mm} (h : Off 60 75 μ μ1) : XJ μ μ1 := ⟨fun c _ _ d => h c (by omega), by rw [h 1 (by omega)]⟩
theorem MJ.rf {μ : Mm} : MJ μ μ := ⟨fun _ _ _ _ _ _ => rfl, fun _ _ => rfl⟩
theorem MJ.tr {μ μ1 μ2 : Mm} (h1 : MJ μ μ1) (h2 : MJ μ1 μ2) : MJ μ μ2 := ⟨fun c a b d e f => (h2.1 c a b d e f).trans (h1.1 c a b d e f), fun j h => (h2.2 j h).trans (h1.2 j h)⟩
theorem MJ.p26 {μ μ1 : Mm} (h : P26 μ μ1) : MJ μ μ1 := ⟨fun c _ b _ _ _ => h c b, fun j _ => by rw [h 0 (by omega)]⟩
theorem SR.xj {b : Nat} {σ : Sg} {μ μ1 : Mm} (S : SR b σ μ) (h : XJ μ μ1) (hb : b = 40 ∨ b = 80) : SR b σ μ1 := by
  have g : ∀ c, b ≤ c → c ≤ b + 15 → μ1 c = μ c := fun c h1 h2 => h.1 c (by omega) (by omega) (by omega)
  unfold SR
  rw [g b (by omega) (by omega), g (b + 1) (by omega) (by omega), g (b + 2) (by omega) (by omega), g (b + 3) (by omega) (by omega), g (b + 4) (by omega) (by omega), g (b + 5) (by omega) (by omega), g (b + 6) (by omega) (by omega)]
  exact S
theorem SX.xj {b : Nat} {σ : Sg} {μ μ1 : Mm} (S : SX b σ μ) (h : XJ μ μ1) (hb : b = 40 ∨ b = 80) : SX b σ μ1 := by
  have g : ∀ c, b ≤ c → c ≤ b + 15 → μ1 c = μ c := fun c h1 h2 => h.1 c (by omega) (by omega) (by omega)
  unfold SX
  rw [g b (by omega) (by omega), g (b + 7) (by omega) (by omega), g (b + 8) (by omega) (by omega), g (b + 9) (by omega) (by omega), g (b + 10) (by omega) (by omega), g (b + 11) (by omega) (by omega), g (b + 12) (by omega) (by omega), g (b + 13) (by omega) (by omega), g (b + 14) (by omega) (by omega), g (b + 15) (by omega) (by omega)]
  exact S
theorem MR.mj {σ : Sg} {μ μ1 : Mm} (S : MR σ μ) (h : MJ μ μ1) : MR σ μ1 := by
  unfold MR
  rw [h.2 0 (by omega), h.2 3 (by omega), h.2 2 (by omega), h.2 1 (by omega), h.1 4 (by omega) (by omega) (by omega) (by omega) (by omega), h.1 5 (by omega) (by omega) (by omega) (by omega) (by omega), h.1 6 (by omega) (by omega) (by omega) (by omega) (by omega), h.1 7 (by omega) (by omega) (by omega) (by omega) (by omega), h.1 8 (by omega) (by omega) (by omega) (by omega) (by omega)]
  exact S
theorem MX.mj {σ : Sg} {μ μ1 : Mm} (S : MX σ μ) (h : MJ μ μ1) : MX σ μ1 := by
  have g : ∀ c, 33 < c → μ1 c = μ c := fun c hc => h.1 c (by omega) (by omega) (by omega) (by omega) (by omega)
  unfold MX
  rw [h.2 10 (by omega), h.2 34 (by omega), h.2 37 (by omega), h.2 38 (by omega), g 35 (by omega), g 36 (by omega), g 39 (by omega), g 40 (by omega), g 41 (by omega), g 42 (by omega)]
  exact S
theorem MI.mj {σ : Sg} {μ μ1 : Mm} (S : MI σ μ) (h : MJ μ μ1) : MI σ μ1 := by
  have g : ∀ c, 33 < c → μ1 c = μ c := fun c hc => h.1 c (by omega) (by omega) (by omega) (by omega) (by omega)
  have g0 : ∀ j, 30 < j → μ1 0 j = μ 0 j := fun j hj => h.2 j (by omega)
  unfold MI
  rw [g0 44 (by omega), g0 45 (by omega), g0 46 (by omega), g0 47 (by omega), g0 48 (by omega), g0 49 (by omega), g0 50 (by omega), g0 51 (by omega), g 52 (by omega), g 53 (by omega), g 54 (by omega), g 55 (by omega), g 56 (by omega), g 57 (by omega), g 58 (by omega), g 59 (by omega), g 60 (by omega), g 61 (by omega), g 62 (by omega)]
  exact S
theorem XKr.mv {i : Nat} {rs : Rsp} {μ μ1 : Mm} (h : XKr i rs μ) (h1 : μ1 (3 + i) = μ (3 + i)) (h2 : μ1 10 i = μ 10 i) : XKr i rs μ1 := fun μ' b p d kd v hb a1 a2 => h μ' b p d kd v hb (a1.trans h1) (a2.trans h2)
theorem MKi.mv {i : Nat} {rs : Rsp} {μ μ1 : Mm} (h : MKi i rs μ) (h1 : μ1 15 i = μ 15 i) (h2 : ∀ c k, 16 ≤ c → c ≤ 19 → 10 * i ≤ k → k < 10 * i + 10 → μ1 c k = μ c k) (h3 : ∀ k, 100 * i ≤ k → k < 100 * i + 100 → μ1 20 k = μ 20 k) : MKi i rs μ1 := fun μ' a0 a1 a2 a3 => h μ' a0 (a1.trans h1) (fun c k x1 x2 x3 x4 => (a2 c k x1 x2 x3 x4).trans (h2 c k x1 x2 x3 x4)) (fun k x1 x2 => (a3 k x1 x2).trans (h3 k x1 x2))
theorem RR.j {n : Nat} {rsf : Nat → Rsp} {μ μ' μ1 μ1' : Mm} (h : RR n rsf μ μ') (hx : XJ μ μ1) (hm : MJ μ' μ1') : RR n rsf μ1 μ1' := by
  obtain ⟨h1, h2, h3, h4⟩ := h
  refine ⟨h1, hx.2.trans h2, (hm.2 9 (by omega)).trans h3, fun i hi => ⟨(h4 i hi).1, (h4 i hi).2.1.mv (hx.1 _ (by omega) (by omega) (by omega)) (by rw [hx.1 10 (by omega) (by omega) (by omega)]), (h4 i hi).2.2.mv (by rw [hm.1 15 (by omega) (by omega) (by omega) (by omega) (by omega)]) (fun c k a b _ _ => by rw [hm.1 c (by omega) (by omega) (by omega) (by omega) (by omega)]) (fun k _ _ => by rw [hm.1 20 (by omega) (by omega) (by omega) (by omega) (by omega)])⟩⟩
theorem TX.j {n L : Nat} {tx : Nat → Nat} {μ μ' μ1 μ1' : Mm} (h : TX n L tx μ μ') (hn : n ≤ 6) (hx : XJ μ μ1) (hm : MJ μ' μ1') : TX n L tx μ1 μ1' := by
  unfold TX
  rw [hx.1 10 (by omega) (by omega) (by omega), hx.1 (3 + n) (by omega) (by omega) (by omega), hm.2 11 (by omega), hm.1 14 (by omega) (by omega) (by omega) (by omega) (by omega)]
  exact h
theorem IM.j {n : Nat} {rsf : Nat → Rsp} {im : Bool} {τ : Sg} {μ μ' μ1 μ1' : Mm} (h : IM n rsf im τ μ μ') (hx : XJ μ μ1) (hm : MJ μ' μ1') : IM n rsf im τ μ1 μ1' := by
  refine ⟨by rw [hx.1 0 (by omega) (by omega) (by omega)]; exact h.1, (hm.2 43 (by omega)).trans h.2.1, fun hi => ?_⟩
  obtain ⟨a, b, c, d⟩ := h.2.2 hi
  exact ⟨a.xj hx (by omega), b.xj hx (by omega), c.mj hm, d⟩
theorem TR.j {μ μ' μ1 μ1' : Mm} (h : TR μ μ') (hx : XJ μ μ1) (hm : MJ μ' μ1') : TR μ1 μ1' := by
  unfold TR
  rw [hx.1 11 (by omega) (by omega) (by omega), hx.1 12 (by omega) (by omega) (by omega), hm.2 63 (by omega), hm.1 64 (by omega) (by omega) (by omega) (by omega) (by omega)]
  exact h
theorem TP.j {μ μ' μ1 μ1' : Mm} {ν ν' : Ml} (h : TP μ ν μ' ν') (hx : XJ μ μ1) (hm : MJ μ' μ1') : TP μ1 ν μ1' ν' := by
  unfold TP
  rw [hx.1 21 (by omega) (by omega) (by omega), hx.1 22 (by omega) (by omega) (by omega), hm.1 65 (by omega) (by omega) (by omega) (by omega) (by omega), hm.1 66 (by omega) (by omega) (by omega) (by omega) (by omega)]
  exact h
theorem Inv.j {μ μ' μ1 μ1' : Mm} {ν ν' : Ml} (h : Inv μ ν μ' ν') (hx : XJ μ μ1) (hm : MJ μ' μ1') : Inv μ1 ν μ1' ν' := by
  obtain ⟨n, rsf, L, tx, σ, τ, im, h1, h2, ⟨h3, h4, h5, h6, h7⟩, h8, h9, h10, h11, h12⟩ := h
  exact ⟨n, rsf, L, tx, σ, τ, im, h1.j hx hm, h2.j h1.1 hx hm, ⟨h3.xj hx (by omega), h4.xj hx (by omega), h5.mj hm, h6.mj hm, h7⟩, h8.j hx hm, h9.j hx hm, h10.j hx hm, fun i hi => by rw [hm.1 25 (by omega) (by omega) (by omega) (by omega) (by omega)]; exact h11 i hi, (hm.2 27 (by omega)).trans h12⟩
/-- the tables of the room that holds -/
theorem MK0 {μ : Mm} (h : μ 0 10 = -1) : MK rs0 μ := by
  intro μ' h0 _
  have h10 : μ' 0 10 = -1 := h0.trans h
  have hn : ¬ (0 : Int32) ≤ -1 := by decide
  have b1 : F_M_begin μ' = some 0 := by
    unfold F_M_begin
    rw [h10, if_neg hn]
  have b2 : F_M_behind μ' = some 0 := by
    unfold F_M_behind
    rw [h10, if_neg hn]
  have hL : ∀ (a1 a2 : Int32), 1 ≤ a2 → F_M_lastOf a1 a2 μ' = some a2 := by
    intro a1 a2 ha
    unfold F_M_lastOf
    rw [b1, Option.bind_some]
    obtain ⟨N, hN⟩ : ∃ N, fu = N + 1 := ⟨99999, rfl⟩
    rw [hN, L_M_lastOf_8, b2, Option.bind_some, if_pos (by decide), if_pos ha]
  refine ⟨?_, ?_, fun p d kd v _ _ _ _ _ _ => ⟨μ', ?_, P26.rf⟩⟩
  · unfold F_M_wears
    rw [hL 2 3 (by decide), Option.bind_some]
    rfl
  · unfold F_M_cost
    rw [hL 3 4 (by decide), Option.bind_some]
    rfl
  · unfold F_M_mouth
    rw [b1, Option.bind_some]
    obtain ⟨N, hN⟩ : ∃ N, fu = N + 1 := ⟨99999, rfl⟩
    rw [hN, L_M_mouth_8, b2, Option.bind_some, if_pos (by decide)]
    rfl
theorem RB0 : RB rs0 := ⟨⟨by decide, by decide⟩, ⟨by decide, by decide⟩, fun _ _ _ _ => (by show 3 ≤ 1000; omega)⟩
theorem Inv_MK {n : Nat} {rsf : Nat → Rsp} {μ μ' : Mm} {h : Nat} (R0 : RR n rsf μ μ') (hh : h ≤ n) (h10 : μ' 0 10 = hdI h) : MK (rsH rsf h) μ' := by
  cases h with
  | zero => exact MK0 h10
  | succ i =>
    have := (R0.2.2.2 i (by omega)).2.2
    have hn := R0.1
    exact fun μ1 a b => this μ1 (a.trans h10) (by rw [b 15 (by omega) (by omega)]) (fun c k x1 x2 _ _ => by rw [b c (by omega) (by omega)]) (fun k _ _ => by rw [b 20 (by omega) (by omega)])
