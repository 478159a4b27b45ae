/-! memory: what a place holds behind a write -/
theorem u_eq {μ : Mm} {b k c j : Nat} {x : Int32} (h1 : c = b) (h2 : j = k) : up2 μ b k x c j = x := by
  subst h1; subst h2
  rw [up2_eq]
  exact pk_us
theorem u_nc {μ : Mm} {b k c j : Nat} {x : Int32} (h : c ≠ b) : up2 μ b k x c j = μ c j := by
  rw [up2_ne c h]
theorem u_nj {μ : Mm} {b k c j : Nat} {x : Int32} (h : j ≠ k) : up2 μ b k x c j = μ c j := by
  by_cases hc : c = b
  · subst hc
    rw [up2_eq]
    exact pk_un h
  · rw [up2_ne c hc]
theorem u_cf {μ : Mm} {b k c : Nat} {x : Int32} (h : c ≠ b) : up2 μ b k x c = μ c := up2_ne c h
def cpS (μ : Mm) (b0 b1 n : Nat) : Mm := fun c => if c = b1 then va_cpy (μ b0) (μ b1) 0 0 n else μ c
theorem cpI_nI {μ : Mm} {b0 n0 b1 n1 n : Nat} (h0 : n ≤ n0) (h1 : n ≤ n1) (hn : n < 2147483648) : cpI μ b0 n0 0 b1 n1 0 (nI n) = some (cpS μ b0 b1 n) := by
  unfold cpI
  have e0 : (0 : Int32).toNatClampNeg = 0 := rfl
  rw [e0, nI_clamp (by omega)]
  have h3 : ¬ (0 : Int32) < 0 := by decide
  have h4 : ¬ nI n < 0 := nI_pos (by omega)
  rw [if_neg (by
    rintro (q | q | q | q | q)
    · exact h3 q
    · exact h3 q
    · exact h4 q
    · omega
    · omega)]
  rfl
theorem p_eq {μ : Mm} {b0 b1 n c j : Nat} (h1 : c = b1) (h2 : j < n) : cpS μ b0 b1 n c j = μ b0 j := by
  subst h1
  unfold cpS va_cpy
  rw [if_pos rfl, if_pos (by omega)]
  congr 1
  omega
theorem p_nc {μ : Mm} {b0 b1 n c j : Nat} (h : c ≠ b1) : cpS μ b0 b1 n c j = μ c j := by
  unfold cpS
  rw [if_neg h]
theorem p_cf {μ : Mm} {b0 b1 n c : Nat} (h : c ≠ b1) : cpS μ b0 b1 n c = μ c := by
  unfold cpS
  rw [if_neg h]
/-- memory changes at most in the cells from a up to e -/
def Off (a e : Nat) (μ μ' : Mm) : Prop := ∀ c, c < a ∨ e < c → μ' c = μ c
theorem Off.rf {a e : Nat} {μ : Mm} : Off a e μ μ := fun _ _ => rfl
theorem Off.tr {a e : Nat} {μ μ1 μ2 : Mm} (h1 : Off a e μ μ1) (h2 : Off a e μ1 μ2) : Off a e μ μ2 := fun c h => (h2 c h).trans (h1 c h)
theorem Off.up {a e b k : Nat} {x : Int32} {μ μ1 : Mm} (h1 : Off a e μ μ1) (ha : a ≤ b) (he : b ≤ e) : Off a e μ (up2 μ1 b k x) := fun c h => (u_cf (by omega)).trans (h1 c h)
theorem Off.cp {a e b0 b1 n : Nat} {μ μ1 : Mm} (h1 : Off a e μ μ1) (ha : a ≤ b1) (he : b1 ≤ e) : Off a e μ (cpS μ1 b0 b1 n) := fun c h => (p_cf (by omega)).trans (h1 c h)
theorem Off.mono {a e a' e' : Nat} {μ μ1 : Mm} (h : Off a e μ μ1) (ha : a' ≤ a) (he : e ≤ e') : Off a' e' μ μ1 := fun c hc => h c (by omega)
/-- held: 0 none, n + 1 the ROOM n -/
def hdI (n : Nat) : Int32 := match n with
  | 0 => -1
  | n + 1 => nI n
/-- the rows that are told by hand, the room that holds: σ 7 0, 8, 9 HEARD; σ 10 0, 11, 12 the TERM; σ 13 0, 14, 15 the BOOK; σ 16 0 the room -/
def SX (b : Nat) (σ : Sg) (μ : Mm) : Prop := (μ (b + 7) 2 = nI (σ 7 0) ∧ ∀ i, i < σ 7 0 → μ (b + 8) i = nI (σ 8 i) ∧ μ (b + 9) i = nI (σ 9 i)) ∧ (μ (b + 10) 2 = nI (σ 10 0) ∧ ∀ i, i < σ 10 0 → μ (b + 11) i = nI (σ 11 i) ∧ (σ 11 i ≠ 0 → μ (b + 12) i = nI (σ 12 i))) ∧ (μ (b + 13) 2 = nI (σ 13 0) ∧ ∀ i, i < σ 13 0 → μ (b + 14) i = nI (σ 14 i) ∧ μ (b + 15) i = nI (σ 15 i)) ∧ μ b 6 = hdI (σ 16 0)
def BX (σ : Sg) : Prop := σ 7 0 ≤ 5 ∧ σ 10 0 ≤ 10 ∧ σ 13 0 ≤ 8 ∧ (∀ i, σ 8 i ≤ 999) ∧ (∀ i, σ 9 i ≤ 20) ∧ (∀ i, σ 11 i ≤ 3) ∧ (∀ i, σ 12 i ≤ 5) ∧ (∀ i, σ 14 i ≤ 5) ∧ (∀ i, σ 15 i ≤ 5) ∧ σ 16 0 ≤ 6
theorem SR.off {b a e : Nat} {σ : Sg} {μ μ' : Mm} (S : SR b σ μ) (h : Off a e μ μ') (hd : b + 15 < a ∨ e < b) : SR b σ μ' := by
  have g : ∀ c, b ≤ c → c ≤ b + 15 → μ' c = μ c := fun c h1 h2 => h c (by omega)
  unfold SR
  rw [g b (by omega) (by omega), g (b + 1) (by omega) (by omega), g (b + 2) (by omega) (by omega), g (b + 3) (by omega) (by omega), g (b + 4) (by omega) (by omega), g (b + 5) (by omega) (by omega), g (b + 6) (by omega) (by omega)]
  exact S
theorem SX.off {b a e : Nat} {σ : Sg} {μ μ' : Mm} (S : SX b σ μ) (h : Off a e μ μ') (hd : b + 15 < a ∨ e < b) : SX b σ μ' := by
  have g : ∀ c, b ≤ c → c ≤ b + 15 → μ' c = μ c := fun c h1 h2 => h c (by omega)
  unfold SX
  rw [g b (by omega) (by omega), g (b + 7) (by omega) (by omega), g (b + 8) (by omega) (by omega), g (b + 9) (by omega) (by omega), g (b + 10) (by omega) (by omega), g (b + 11) (by omega) (by omega), g (b + 12) (by omega) (by omega), g (b + 13) (by omega) (by omega), g (b + 14) (by omega) (by omega), g (b + 15) (by omega) (by omega)]
  exact S
/-! rows of two numbers -/
theorem r_takes {r : Nat} {μ : Mm} {a1 a2 : Int32} {n : Nat} (hn : μ r 2 = nI n) (hl : rlen r < 1000) (hle : n ≤ rlen r) : F_Rows_takes r a1 a2 μ = if n = rlen r then some (-4, μ) else some (nI (n + 1), up2 (up2 (up2 μ (r + 1) n a1) (r + 2) n a2) r 2 (nI (n + 1))) := by
  unfold F_Rows_takes
  have e : Int32.ofNat (rlen r) = nI (rlen r) := rfl
  rw [e, hn, ite_le (by omega) (by omega)]
  by_cases h : n = rlen r
  · rw [if_pos (by omega), if_pos h]
  · rw [if_neg (by omega), if_neg h, ite_lt (by omega) (by omega), if_pos (by omega), wrI_nI (by omega) (by omega), Option.bind_some]
    have h1 : (up2 μ (r + 1) n a1) r 2 = nI n := by rw [u_nc (by omega)]; exact hn
    rw [h1, wrI_nI (by omega) (by omega), Option.bind_some]
    have h2 : (up2 (up2 μ (r + 1) n a1) (r + 2) n a2) r 2 = nI n := by rw [u_nc (by omega)]; exact h1
    simp only [lt_e]
    rw [h2, nI_1]
theorem r_becomesL {r s : Nat} {N : Nat} {f g : Nat → Int32} (hd : r + 2 < s ∨ s + 2 < r) (hl : rlen r < 1000) (hls : rlen s = rlen r) (hN : N ≤ rlen r) : ∀ d j, j + d = N → ∀ n, d < n → ∀ (x : Int32), x = nI j → ∀ μ : Mm, μ s 2 = nI N → (∀ i, i < N → μ (s + 1) i = f i ∧ μ (s + 2) i = g i) → μ r 2 = nI j → (∀ i, i < j → μ (r + 1) i = f i ∧ μ (r + 2) i = g i) → ∃ μ', L_Rows_becomes_7 r s (fun μ => some μ) n x μ = some μ' ∧ Off r (r + 2) μ μ' ∧ μ' r 2 = nI N ∧ ∀ i, i < N → μ' (r + 1) i = f i ∧ μ' (r + 2) i = g i := by
  intro d
  induction d with
  | zero =>
    intro j hj n hn x hx μ h1 h2 h3 h4
    subst hx
    obtain ⟨m, rfl⟩ : ∃ m, n = m + 1 := ⟨n - 1, by omega⟩
    have hjN : j = N := by omega
    refine ⟨μ, ?_, Off.rf, by rw [h3, hjN], by rw [← hjN]; exact h4⟩
    rw [L_Rows_becomes_7, h1, ite_le (by omega) (by omega), if_pos (by omega)]
  | succ d ih =>
    intro j hj n hn x hx μ h1 h2 h3 h4
    subst hx
    obtain ⟨m, rfl⟩ : ∃ m, n = m + 1 := ⟨n - 1, by omega⟩
    obtain ⟨μ', e1, e2, e3, e4⟩ := ih (j + 1) (by omega) m (by omega) _ rfl (up2 (up2 (up2 μ (r + 1) j (f j)) (r + 2) j (g j)) r 2 (nI (j + 1))) (by rw [u_nc (by omega), u_nc (by omega), u_nc (by omega)]; exact h1) (fun i hi => by
      rw [u_nc (by omega), u_nc (by omega), u_nc (by omega), u_nc (by omega), u_nc (by omega), u_nc (by omega)]
      exact h2 i hi) (u_eq rfl rfl) (fun i hi => by
      by_cases hij : i = j
      · subst hij
        simp (disch := omega) only [u_nc, u_eq]
        exact ⟨trivial, trivial⟩
      · simp (disch := omega) only [u_nc, u_nj]
        exact h4 i (by omega))
    refine ⟨μ', ?_, Off.tr (Off.up (Off.up (Off.up Off.rf (by omega) (by omega)) (by omega) (by omega)) (by omega) (by omega)) e2, e3, e4⟩
    rw [L_Rows_becomes_7, h1, ite_le (by omega) (by omega), if_neg (by omega), hls, rdI_nI (by omega) (by omega), Option.bind_some, rdI_nI (by omega) (by omega), Option.bind_some, (h2 j (by omega)).1, (h2 j (by omega)).2, r_takes h3 hl (by omega), if_neg (by omega), Option.bind_some, nI_1]
    exact e1
theorem r_becomes {r s : Nat} {N : Nat} {f g : Nat → Int32} (hd : r + 2 < s ∨ s + 2 < r) (hl : rlen r < 1000) (hls : rlen s = rlen r) (hN : N ≤ rlen r) {μ : Mm} (h1 : μ s 2 = nI N) (h2 : ∀ i, i < N → μ (s + 1) i = f i ∧ μ (s + 2) i = g i) : ∃ μ', F_Rows_becomes r s μ = some μ' ∧ Off r (r + 2) μ μ' ∧ μ' r 2 = nI N ∧ ∀ i, i < N → μ' (r + 1) i = f i ∧ μ' (r + 2) i = g i := by
  obtain ⟨μ', e1, e2, e3, e4⟩ := r_becomesL hd hl hls hN N 0 (by omega) fu (fu_gt (by omega)) 0 rfl (up2 μ r 2 0) (by rw [u_nc (by omega)]; exact h1) (fun i hi => by rw [u_nc (by omega), u_nc (by omega)]; exact h2 i hi) (u_eq rfl rfl) (fun i hi => by omega)
  refine ⟨μ', ?_, Off.tr (Off.up Off.rf (by omega) (by omega)) e2, e3, e4⟩
  unfold F_Rows_becomes
  simp only [lt_e]
  exact e1
theorem x_becomes {b c : Nat} {σ : Sg} {μ : Mm} (hd : b + 15 < c ∨ c + 15 < b) (hr : (rlen (b + 7) = 5 ∧ rlen (c + 7) = 5) ∧ (rlen (b + 10) = 10 ∧ rlen (c + 10) = 10) ∧ rlen (b + 13) = 8 ∧ rlen (c + 13) = 8) (S : SR c σ μ) (X : SX c σ μ) (BX' : BX σ) : ∃ μ', F_Seat_becomes b c μ = some μ' ∧ Off b (b + 15) μ μ' ∧ SR b σ μ' ∧ SX b σ μ' := by
  have q24 : (24 : Int32) = nI 24 := rfl
  have q36 : (36 : Int32) = nI 36 := rfl
  unfold F_Seat_becomes
  simp only [lt_e]
  rw [q6, q24, q36, cpI_nI (by omega) (by omega) (by omega), Option.bind_some, cpI_nI (by omega) (by omega) (by omega), Option.bind_some, cpI_nI (by omega) (by omega) (by omega), Option.bind_some, cpI_nI (by omega) (by omega) (by omega), Option.bind_some, cpI_nI (by omega) (by omega) (by omega), Option.bind_some, cpI_nI (by omega) (by omega) (by omega), Option.bind_some]
  generalize hμ : cpS _ (c + 6) (b + 6) 36 = μ1
  have O1 : Off b (b + 15) μ μ1 := by
    rw [← hμ]
    exact Off.cp (Off.cp (Off.cp (Off.cp (Off.cp (Off.cp (Off.up (Off.up (Off.up (Off.up (Off.up (Off.up (Off.up (Off.up Off.rf (by omega) (by omega)) (by omega) (by omega)) (by omega) (by omega)) (by omega) (by omega)) (by omega) (by omega)) (by omega) (by omega)) (by omega) (by omega)) (by omega) (by omega)) (by omega) (by omega)) (by omega) (by omega)) (by omega) (by omega)) (by omega) (by omega)) (by omega) (by omega)) (by omega) (by omega)
  have S1 : SR b σ μ1 ∧ μ1 b 6 = hdI (σ 16 0) := by
    obtain ⟨s1, s2, s3, s4, s5, s6, s7, s8, s9, s10, s11, s12, s13⟩ := S
    rw [← hμ]
    unfold SR
    simp (disch := omega) only [p_nc, u_eq, u_nj, u_nc, p_eq]
    refine ⟨⟨s1, s2, s3, s4, s5, s6, s7, fun p hp => ?_, fun p hp => ?_, fun p hp => ?_, fun p hp => ?_, fun p hp => ?_, fun p hp => ?_⟩, X.2.2.2⟩ <;> simp (disch := omega) only [p_nc, u_eq, u_nj, u_nc, p_eq]
    · exact s8 p hp
    · exact s9 p hp
    · exact s10 p hp
    · exact s11 p hp
    · exact s12 p hp
    · exact s13 p hp
  have X1 : SX c σ μ1 := X.off O1 (by omega)
  obtain ⟨⟨x1, x2⟩, ⟨x3, x4⟩, ⟨x5, x6⟩, x7⟩ := X1
  obtain ⟨μ2, e2, O2, n2, v2⟩ := r_becomes (r := b + 7) (s := c + 7) (N := σ 7 0) (f := fun i => μ1 (c + 8) i) (g := fun i => μ1 (c + 9) i) (by omega) (by omega) (by omega) (by have := BX'.1; omega) x1 (fun i _ => ⟨rfl, rfl⟩)
  rw [e2, Option.bind_some]
  obtain ⟨μ3, e3, O3, n3, v3⟩ := r_becomes (r := b + 10) (s := c + 10) (N := σ 10 0) (f := fun i => μ1 (c + 11) i) (g := fun i => μ1 (c + 12) i) (by omega) (by omega) (by omega) (by have := BX'.2.1; omega) (μ := μ2) (by rw [O2 _ (by omega)]; exact x3) (fun i _ => by rw [O2 _ (by omega), O2 _ (by omega)]; exact ⟨rfl, rfl⟩)
  rw [e3, Option.bind_some]
  obtain ⟨μ4, e4, O4, n4, v4⟩ := r_becomes (r := b + 13) (s := c + 13) (N := σ 13 0) (f := fun i => μ1 (c + 14) i) (g := fun i => μ1 (c + 15) i) (by omega) (by omega) (by omega) (by have := BX'.2.2.1; omega) (μ := μ3) (by rw [O3 _ (by omega), O2 _ (by omega)]; exact x5) (fun i _ => by rw [O3 _ (by omega), O2 _ (by omega), O3 _ (by omega), O2 _ (by omega)]; exact ⟨rfl, rfl⟩)
  rw [e4, Option.bind_some]
  have k4 : ∀ a, a ≤ b + 6 → b ≤ a → μ4 a = μ1 a := fun a h1 h2 => by rw [O4 _ (by omega), O3 _ (by omega), O2 _ (by omega)]
  refine ⟨μ4, rfl, O1.tr (((O2.mono (by omega) (by omega)).tr (O3.mono (by omega) (by omega))).tr (O4.mono (by omega) (by omega))), ?_, ?_⟩
  · have hs := S1.1
    unfold SR at hs ⊢
    rw [k4 b (by omega) (by omega), k4 (b + 1) (by omega) (by omega), k4 (b + 2) (by omega) (by omega), k4 (b + 3) (by omega) (by omega), k4 (b + 4) (by omega) (by omega), k4 (b + 5) (by omega) (by omega), k4 (b + 6) (by omega) (by omega)]
    exact hs
  · refine ⟨⟨?_, fun i hi => ?_⟩, ⟨?_, fun i hi => ?_⟩, ⟨n4, fun i hi => ?_⟩, ?_⟩
    · rw [O4 _ (by omega), O3 _ (by omega)]; exact n2
    · rw [O4 _ (by omega), O3 _ (by omega), O4 _ (by omega), O3 _ (by omega), (v2 i hi).1, (v2 i hi).2]; exact x2 i hi
    · rw [O4 _ (by omega)]; exact n3
    · rw [O4 _ (by omega), O4 _ (by omega), (v3 i hi).1, (v3 i hi).2]; exact x4 i hi
    · rw [(v4 i hi).1, (v4 i hi).2]; exact x6 i hi
    · rw [k4 b (by omega) (by omega)]; exact S1.2
