/-! move, pass, on, loud -/
theorem GS.sb {n : Nat} {rsf : Nat → Rsp} {σ σ1 : Sg} (G : GS n rsf σ) (h : SB σ σ1) (B : BW σ1) (hk : ∀ p, σ1 4 p ≤ 9999) (D : DI σ1) (hw : σ1 0 1 ≤ 9999) : GS n rsf σ1 := by
  have e16 := h.2 16 (by omega) (by omega) (by omega)
  unfold GS
  rw [e16]
  exact ⟨B, G.2.1.sb h, G.2.2.1.sb h, G.2.2.2.1, hk, D, hw⟩
theorem Inv.nowy {μ μ' μ1 μ1' : Mm} {ν ν' : Ml} {n L : Nat} {rsf : Nat → Rsp} {tx : Nat → Nat} {σ τ : Sg} {im : Bool} (h1 : RR n rsf μ μ') (h2 : TX n L tx μ μ') (h8 : IM n rsf im τ μ μ') (h9 : TR μ μ') (h10 : TP μ ν μ' ν') (h11 : LT μ') (h12 : μ' 0 27 = 9999) (hx : Off 40 55 μ μ1) (hm : MY μ' μ1') (h27 : μ1' 0 27 = 9999) (s : SR 40 σ μ1 ∧ SX 40 σ μ1 ∧ MR σ μ1' ∧ MX σ μ1' ∧ GS n rsf σ) : Inv μ1 ν μ1' ν' :=
  Inv.now h1 h2 h8 h9 h10 h11 h12 hx ⟨fun c hc => hm.1 c (by omega), fun j hj => by
    by_cases h : j = 27
    · rw [h, h27, h12]
    · exact hm.2 j (by omega)⟩ s
theorem whf_none {σ : Sg} {d : Nat} : ∀ n j, whf σ d n j = none → ∀ q, j ≤ q → q < j + n → σ 3 q ≠ d := by
  intro n
  induction n with
  | zero =>
    intro j h q h1 h2
    omega
  | succ n ih =>
    intro j h q h1 h2
    rw [whf] at h
    by_cases c : σ 3 j = d
    · rw [if_pos c] at h
      cases h
    · rw [if_neg c] at h
      by_cases e : q = j
      · rw [e]
        exact c
      · exact ih (j + 1) h q (by omega) (by omega)
theorem wh_none {σ : Sg} {d : Nat} (h : wh σ d = none) {q : Nat} (hq : q < σ 0 0) : σ 3 q ≠ d := whf_none _ _ h q (by omega) (by omega)
theorem DI_sits {σ : Sg} (D : DI σ) {p d : Nat} (hp : p < σ 0 0) : DI (sits σ p d) := by
  intro a c ha hc h
  replace ha : a < σ 0 0 := ha
  replace hc : c < σ 0 0 := hc
  replace h : sitsF σ p d a = sitsF σ p d c := h
  unfold sitsF at h
  have hD := D a c ha hc
  have h1 := D a p ha hp
  have h2 := D p c hp hc
  cases e : wh σ d with
  | none =>
    have n1 := wh_none e ha
    have n2 := wh_none e hc
    rw [e] at h
    simp only [] at h
    by_cases c1 : a = p <;> by_cases c2 : c = p <;> simp only [c1, c2, if_true, if_false] at h <;> omega
  | some o =>
    obtain ⟨n1, n2⟩ := wh_some e
    rw [e] at h
    simp only [] at h
    have h3 := D a o ha n1
    have h4 := D o c n1 hc
    have h5 := D o p n1 hp
    revert h
    repeat' split
    all_goals (intro h; omega)
theorem DI_row3 {σ σ1 : Sg} (D : DI σ) (h0 : σ1 0 0 = σ 0 0) (h3 : σ1 3 = σ 3) : DI σ1 := by
  unfold DI
  rw [h0, h3]
  exact D
/-- NOISE of a later week -/
theorem tk_sh {σ σ1 : Sg} {p s t : Nat} (h0 : σ1 0 0 = σ 0 0) (h01 : σ1 0 1 = σ 0 1 + s) (h02 : σ1 0 2 = min 99 (σ 0 2 + s)) (h03 : σ1 0 3 = σ 0 3) (h04 : σ1 0 4 = σ 0 4) (h1 : σ1 1 = σ 1) (h2 : σ1 2 = σ 2) (h3 : σ1 3 = σ 3) (h5 : σ1 5 = σ 5) (h6 : σ1 6 = σ 6) : tk σ1 p t = tk σ p (s + t) := by
  have e1 : nb σ1 p = nb σ p := by
    funext q
    unfold nb aw
    rw [h0, h03, h3]
  have e2 : isck σ1 = isck σ := by
    funext q
    unfold isck
    rw [h0, h1]
  have e3 : cnt σ1 p = cnt σ p := by
    unfold cnt
    rw [e1]
  have e4 : cck σ1 p = cck σ p := by
    unfold cck
    rw [e1, e2]
  have e5 : vc σ1 p t = vc σ p (s + t) := by
    unfold vc
    rw [h1, h2, h3, h5, h6, e3, h01, Nat.add_assoc]
  have e6 : min 99 (min 99 (σ 0 2 + s) + t) = min 99 (σ 0 2 + (s + t)) := by omega
  unfold tk aw
  rw [e3, e4, e5, h03, h1, h02, h04, e6]
theorem ns_sh {σ σ1 : Sg} {s t : Nat} (h0 : σ1 0 0 = σ 0 0) (h01 : σ1 0 1 = σ 0 1 + s) (h02 : σ1 0 2 = min 99 (σ 0 2 + s)) (h03 : σ1 0 3 = σ 0 3) (h04 : σ1 0 4 = σ 0 4) (h1 : σ1 1 = σ 1) (h2 : σ1 2 = σ 2) (h3 : σ1 3 = σ 3) (h5 : σ1 5 = σ 5) (h6 : σ1 6 = σ 6) : ns σ1 t = ns σ (s + t) := by
  unfold ns
  rw [h0]
  exact sm_congr _ (fun i _ => tk_sh h0 h01 h02 h03 h04 h1 h2 h3 h5 h6)
theorem ns_wk {M : Nat} {σ : Sg} {t : Nat} : ns (wk M σ) t = ns σ (1 + t) := ns_sh rfl rfl rfl rfl rfl rfl rfl rfl rfl rfl
/-- so many weeks on -/
def wn (σ : Sg) : Nat → Sg
  | 0 => σ
  | k + 1 => wk 2000000000 (wn σ k)
theorem wn_sb {σ : Sg} : ∀ k, SB σ (wn σ k)
  | 0 => SB.rf
  | k + 1 => (wn_sb k).tr SB.wk
theorem wn_4 {σ : Sg} (h : ∀ p, σ 4 p ≤ 9999) (p : Nat) : ∀ k, wn σ k 4 p ≤ 9999 + 10 * k
  | 0 => h p
  | k + 1 => wk_4 (wn_4 h p k)
theorem wn_01 {σ : Sg} : ∀ k, wn σ k 0 1 = σ 0 1 + k
  | 0 => rfl
  | k + 1 => congrArg (· + 1) (wn_01 k)
theorem wn_bw {σ : Sg} (B : BW σ) (h : ∀ p, σ 4 p ≤ 9999) {k : Nat} (hw : σ 0 1 + k ≤ 20000) (hk : k ≤ 1000) : BW (wn σ k) := by
  induction k with
  | zero => exact B
  | succ k ih =>
    refine BW_wk (ih (by omega) (by omega)) (fun p => ?_) (by rw [wn_01]; omega)
    have := wn_4 h p k
    omega
theorem wn_ns {σ : Sg} : ∀ k t, ns (wn σ k) t = ns σ (k + t)
  | 0, t => by rw [Nat.zero_add]; rfl
  | k + 1, t => by
    show ns (wk _ (wn σ k)) t = _
    rw [ns_wk, wn_ns k, Nat.add_assoc]
section CMD
variable {μ μ' : Mm} {ν ν' : Ml}
theorem st_move (I : Inv μ ν μ' ν') (a b : Int32) : ∃ r μ1 μ1', F_BT_move a b μ = some (r, μ1) ∧ F_M_move a b μ' = some (r, μ1') ∧ Inv μ1 ν μ1' ν' := by
  obtain ⟨n, rsf, L, tx, σ, τ, im, h1, h2, ⟨h3, h4, h5, h6, h7⟩, h8, h9, h10, h11, h12⟩ := id I
  have K : MK (rsH rsf (σ 16 0)) μ' := Inv_MK h1 h7.2.2.2.1 h6.1
  have O := h7.2.2.1
  have B := h7.1
  have h66 := B.1
  unfold F_BT_move F_M_move
  rcases pup_c h3 h5 B a with ⟨p, hp, rfl, e1, e2⟩ | ⟨e1, e2⟩
  · rw [e1, e2, Option.bind_some, Option.bind_some, if_neg one_ne, if_neg one_ne]
    rcases desk_c b with ⟨w, hw, rfl, d1, d2⟩ | ⟨d1, d2⟩
    · obtain ⟨μ1, x1, x2, x3, x4⟩ := x_moves h3 B (p := p) (by omega) hw
      obtain ⟨μ1', m1, m2, m3, m4⟩ := m_moves h5 B (p := p) (by omega) hw
      have hy : MY μ' μ1' := MY.mk2 (fun c h0 h6 _ _ => m3 c h6 h0) (fun j hj => m4 j (by omega))
      have B1 := BW_moves B (p := p) (d := w) hw
      obtain ⟨μ2', n1, n2⟩ := m_noise m2 (K.my hy) (O.sb SB.moves) B1
      rw [d1, d2, Option.bind_some, Option.bind_some, if_neg one_ne, if_neg one_ne, x1, m1, Option.bind_some, Option.bind_some, n1, Option.bind_some, q0, x_noise x2 B1 (t := 0) (by omega), Option.bind_some]
      refine ⟨_, μ1, μ2', rfl, rfl, Inv.nowy h1 h2 h8 h9 h10 h11 h12 (fun c hc => x3 c (by omega) (by omega)) (hy.tr (MY.p26 n2)) ?_ ⟨x2, (h4.sb SB.moves).keep (fun c _ _ => x3 c (by omega) (by omega)) (x4 6 (by omega)), m2.p26 n2, (h6.sb SB.moves).my (hy.tr (MY.p26 n2)), h7.sb SB.moves B1 h7.2.2.2.2.1 (DI_row3 (DI_sits h7.2.2.2.2.2.1 hp) rfl rfl) h7.2.2.2.2.2.2⟩⟩
      rw [n2 0 (by omega), m4 27 (by omega), h12]
    · rw [d1, d2, Option.bind_some, Option.bind_some, if_pos rfl, if_pos rfl]
      exact ⟨_, _, _, rfl, rfl, I⟩
  · rw [e1, e2, Option.bind_some, Option.bind_some, if_pos rfl, if_pos rfl]
    exact ⟨_, _, _, rfl, rfl, I⟩
theorem passL {nn : Nat} {rsf : Nat → Rsp} {μ0 μ0' : Mm} {N : Nat} (hN : N ≤ 60) {rs : Rsp} (K : MK rs μ0') (k : Mm → Option (Int32 × Mm)) (k' : Mm → Option Mm) : ∀ d j, j + d = N → ∀ n n', d < n → d < n' → ∀ x, x = nI j → ∀ (σ : Sg) (μ μ' : Mm), SR 40 σ μ → SX 40 σ μ → Off 40 55 μ0 μ → MR σ μ' → MX σ μ' → MY μ0' μ' → μ' 0 27 = 9999 → GS nn rsf σ → rsH rsf (σ 16 0) = rs → σ 0 1 + d ≤ 9999 → ∃ σ1 μ1 μ1', L_BT_pass_33 (nI N) k n x μ = k μ1 ∧ L_M_goWeeks_2 (nI N) k' n' x μ' = k' μ1' ∧ SR 40 σ1 μ1 ∧ SX 40 σ1 μ1 ∧ Off 40 55 μ0 μ1 ∧ MR σ1 μ1' ∧ MX σ1 μ1' ∧ MY μ0' μ1' ∧ μ1' 0 27 = 9999 ∧ GS nn rsf σ1 ∧ rsH rsf (σ1 16 0) = rs := by
  intro d
  induction d with
  | zero =>
    intro j hj n n' hn hn' x hx σ μ μ' a1 a2 a3 a4 a5 a6 a7 a8 a9 a10
    obtain ⟨N1, rfl⟩ : ∃ N, n = N + 1 := ⟨n - 1, by omega⟩
    obtain ⟨N1', rfl⟩ : ∃ N, n' = N + 1 := ⟨n' - 1, by omega⟩
    subst hx
    rw [L_BT_pass_33, L_M_goWeeks_2, ite_le (by omega) (by omega), ite_le (by omega) (by omega), if_pos (by omega), if_pos (by omega)]
    exact ⟨σ, μ, μ', rfl, rfl, a1, a2, a3, a4, a5, a6, a7, a8, a9⟩
  | succ d ih =>
    intro j hj n n' hn hn' x hx σ μ μ' a1 a2 a3 a4 a5 a6 a7 a8 a9 a10
    obtain ⟨N1, rfl⟩ : ∃ N, n = N + 1 := ⟨n - 1, by omega⟩
    obtain ⟨N1', rfl⟩ : ∃ N, n' = N + 1 := ⟨n' - 1, by omega⟩
    subst hx
    have hk : ∀ p, σ 4 p ≤ 99999990 := fun p => by
      have := a8.2.2.2.2.1 p
      omega
    obtain ⟨μ1, x1, x2, x3, x4⟩ := x_wk m_9999 a1 a8.1 hk
    have O : MO rs σ := a9 ▸ a8.2.2.1
    obtain ⟨μ1', m1, m2, m3, m4⟩ := m_wk (M := 9999) (by omega) a4 (K.my a6) O a8.1 hk a7
    have hy : MY μ' μ1' := MY.mk2 (fun c h0 h6 h7 h26 => m3 c h7 h0 h26) (fun j hj => m4 j (by omega) (by omega))
    have s16 : wk 9999 σ 16 = σ 16 := SB.wk.2 16 (by omega) (by omega) (by omega)
    have G : GS nn rsf (wk 9999 σ) := a8.sb SB.wk (BW_wk a8.1 hk (by omega)) (fun p => by
      show (if p < σ 0 0 then min 9999 (σ 4 p + ln σ p (ns σ 0)) else σ 4 p) ≤ 9999
      have := a8.2.2.2.2.1 p
      split <;> omega) (DI_row3 a8.2.2.2.2.2.1 rfl rfl) (by show σ 0 1 + 1 ≤ 9999; omega)
    rw [L_BT_pass_33, L_M_goWeeks_2, ite_le (by omega) (by omega), ite_le (by omega) (by omega), if_neg (show ¬ N ≤ j by omega), if_neg (show ¬ N ≤ j by omega), x1, m1, Option.bind_some, Option.bind_some]
    exact ih (j + 1) (by omega) N1 N1' (by omega) (by omega) _ (nI_1 j) (wk 9999 σ) μ1 μ1' x2 ((a2.sb SB.wk).keep (fun c _ _ => x3 c (by omega) (by omega)) (x4 6 (by omega) (by omega))) (fun c hc => (x3 c (by omega) (by omega)).trans (a3 c hc)) m2 ((a5.sb SB.wk).my hy) (a6.tr hy) ((m4 27 (by omega) (by omega)).trans a7) G (by rw [s16]; exact a9) (by show σ 0 1 + 1 + d ≤ 9999; omega)
theorem st_pass (I : Inv μ ν μ' ν') (a : Int32) : ∃ r μ1 μ1', F_BT_pass a μ = some (r, μ1) ∧ F_M_pass a μ' = some (r, μ1') ∧ Inv μ1 ν μ1' ν' := by
  obtain ⟨n, rsf, L, tx, σ, τ, im, h1, h2, ⟨h3, h4, h5, h6, h7⟩, h8, h9, h10, h11, h12⟩ := id I
  have K : MK (rsH rsf (σ 16 0)) μ' := Inv_MK h1 h7.2.2.2.1 h6.1
  have B := h7.1
  have b01 := B.2.1
  unfold F_BT_pass F_M_pass
  rcases weeks_c a with ⟨N, hN, rfl, e1, e2⟩ | ⟨e1, e2⟩
  · rw [e1, e2, Option.bind_some, Option.bind_some, if_neg one_ne, if_neg one_ne, h3.2.1, h5.2.1, nI_add, q9999, ite_le (by omega) (by omega), ite_le (by omega) (by omega)]
    by_cases c : σ 0 1 + N ≤ 9999
    · rw [if_pos c, if_pos c]
      unfold F_M_goWeeks
      obtain ⟨σ1, μ1, μ1', w1, w2, a1, a2, a3, a4, a5, a6, a7, a8, a9⟩ := passL hN K (fun (μ8 : Mm) => (F_Seat_noise 40 0 μ8).bind fun v9 => some (v9, μ8)) (fun (μ6 : Mm) => some μ6) N 0 (by omega) fu fu (fu_gt (by omega)) (fu_gt (by omega)) 0 rfl σ μ μ' h3 h4 Off.rf h5 h6 MY.rf h12 h7 rfl (by omega)
      obtain ⟨μ2', n1, n2⟩ := m_noise a4 (K.my a6) (a9 ▸ a8.2.2.1) a8.1
      rw [w1, w2, Option.bind_some, n1, Option.bind_some, q0, x_noise a1 a8.1 (t := 0) (by omega), Option.bind_some]
      exact ⟨_, μ1, μ2', rfl, rfl, Inv.nowy h1 h2 h8 h9 h10 h11 h12 a3 (a6.tr (MY.p26 n2)) (by rw [n2 0 (by omega)]; exact a7) ⟨a1, a2, a4.p26 n2, a5.my (MY.p26 n2), a8⟩⟩
    · rw [if_neg c, if_neg c]
      exact ⟨_, _, _, rfl, rfl, I⟩
  · rw [e1, e2, Option.bind_some, Option.bind_some, if_pos rfl, if_pos rfl]
    exact ⟨_, _, _, rfl, rfl, I⟩
theorem ofp_c {σ : Sg} (S : SR 40 σ μ) (M : MR σ μ') (B : BW σ) (a : Int32) : (∃ p, p < σ 0 0 ∧ a = nI (p + 10) ∧ a - 10 = nI p ∧ F_BT_isOfPupil a μ = some 1 ∧ F_M_in a 10 (9 + μ' 0 0) = some 1) ∨ (F_BT_isOfPupil a μ = some 0 ∧ F_M_in a 10 (9 + μ' 0 0) = some 0) := by
  have h6 := B.1
  unfold F_BT_isOfPupil
  rw [M.1, q9, nI_add]
  by_cases h : a < 10
  · right
    unfold F_M_in
    rw [if_pos h, if_pos h]
    exact ⟨rfl, rfl⟩
  · have hnn : ¬ a < 0 := fun q => h (neg_lt (n := 10) q (by omega))
    rcases i32_cases a with q | ⟨m, hm, rfl⟩
    · exact absurd q hnn
    · have h10 : ¬ m < 10 := fun q => h ((nI_ltI (a := m) (b := 10) (by omega) (by omega)).mpr q)
      obtain ⟨k, rfl⟩ : ∃ k, m = k + 10 := ⟨m - 10, by omega⟩
      have e : nI (k + 10) - 10 = nI k := nI_s k 10
      unfold F_M_in F_Seat_has
      rw [if_neg h, if_neg h, e, if_neg (nn_not_neg (by omega)), S.1, ite_le (by omega) (by omega), ite_lt (by omega) (by omega)]
      by_cases c : σ 0 0 ≤ k
      · right
        rw [if_pos c, if_pos (by omega)]
        exact ⟨rfl, rfl⟩
      · left
        refine ⟨k, by omega, rfl, rfl, ?_, ?_⟩
        · rw [if_neg c]
          rfl
        · rw [if_neg (by omega)]
theorem onXL {σ : Sg} {μ0 : Mm} {N : Nat} (hN : N ≤ 60) (B : BW σ) (hk : ∀ p, σ 4 p ≤ 9999) (hw : σ 0 1 ≤ 19900) (a : Int32) (k : Mm → Option (Int32 × Mm)) : ∀ d j, j + d = N → ∀ n, d < n → ∀ x, x = nI j → ∀ μ, XT (wn σ j) μ0 μ → ∃ μ1, L_BT_on_58 (nI N) a k n x μ = k μ1 ∧ XT (wn σ N) μ0 μ1 := by
  intro d
  induction d with
  | zero =>
    intro j hj n hn x hx μ T
    obtain ⟨N1, rfl⟩ : ∃ N, n = N + 1 := ⟨n - 1, by omega⟩
    subst hx
    have e : j = N := by omega
    subst e
    rw [L_BT_on_58, ite_le (by omega) (by omega), if_pos (by omega)]
    exact ⟨μ, rfl, T⟩
  | succ d ih =>
    intro j hj n hn x hx μ T
    obtain ⟨N1, rfl⟩ : ∃ N, n = N + 1 := ⟨n - 1, by omega⟩
    subst hx
    have h4 : ∀ p, wn σ j 4 p ≤ 99999990 := fun p => by
      have := wn_4 hk p j
      omega
    obtain ⟨μ1, x1, x2⟩ := T.wk (wn_bw B hk (by omega) (by omega)) h4
    rw [L_BT_on_58, ite_le (by omega) (by omega), if_neg (by omega), x1, Option.bind_some]
    rw [wk_cap h4] at x2
    exact ih (j + 1) (by omega) N1 (by omega) _ (nI_1 j) μ1 x2
theorem onML {rs : Rsp} {σ : Sg} {μ0 : Mm} {N : Nat} (hN : N ≤ 60) (K : MK rs μ0) (O : MO rs σ) (B : BW σ) (hk : ∀ p, σ 4 p ≤ 9999) (hw : σ 0 1 ≤ 19900) (k : Mm → Option Mm) : ∀ d j, j + d = N → ∀ n, d < n → ∀ x, x = nI j → ∀ μ, MT σ (wn σ j) μ0 μ → ∃ μ1, L_M_goWeeks_2 (nI N) k n x μ = k μ1 ∧ MT σ (wn σ N) μ0 μ1 := by
  intro d
  induction d with
  | zero =>
    intro j hj n hn x hx μ T
    obtain ⟨N1, rfl⟩ : ∃ N, n = N + 1 := ⟨n - 1, by omega⟩
    subst hx
    have e : j = N := by omega
    subst e
    rw [L_M_goWeeks_2, ite_le (by omega) (by omega), if_pos (by omega)]
    exact ⟨μ, rfl, T⟩
  | succ d ih =>
    intro j hj n hn x hx μ T
    obtain ⟨N1, rfl⟩ : ∃ N, n = N + 1 := ⟨n - 1, by omega⟩
    subst hx
    have h4 : ∀ p, wn σ j 4 p ≤ 99999990 := fun p => by
      have := wn_4 hk p j
      omega
    obtain ⟨μ1, x1, x2⟩ := T.wk K (O.sb (wn_sb j)) (wn_bw B hk (by omega) (by omega)) h4
    rw [L_M_goWeeks_2, ite_le (by omega) (by omega), if_neg (by omega), x1, Option.bind_some]
    exact ih (j + 1) (by omega) N1 (by omega) _ (nI_1 j) μ1 x2
theorem loudXL {σ : Sg} (S : SR 40 σ μ) (B : BW σ) {Q : Nat} (hQ : Q ≤ 999) : ∀ d j, j + d = 61 → ∀ n, d < n → ∀ x, x = nI j → ∃ r, L_BT_loud_16 (nI Q) μ (fun (_ : Unit) => some (-5)) n x = some r ∧ ∀ (rs : Rsp) (μ0 : Mm) (k : Int32 → Mm → Option (Int32 × Mm)), MK rs μ0 → MO rs σ → (∀ p, σ 4 p ≤ 9999) → σ 0 1 ≤ 19900 → ∀ n', d < n' → ∀ μ1, MT σ (wn σ j) μ0 μ1 → ∃ i μ2, L_M_loud_17 (nI Q) k n' (nI j) μ1 = k (nI i) μ2 ∧ i ≤ 61 ∧ MT σ (wn σ i) μ0 μ2 ∧ r = if 61 ≤ i then -5 else nI i := by
  intro d
  induction d with
  | zero =>
    intro j hj n hn x hx
    obtain ⟨N1, rfl⟩ : ∃ N, n = N + 1 := ⟨n - 1, by omega⟩
    subst hx
    rw [L_BT_loud_16, q60, ite_lt (by omega) (by omega), if_pos (by omega)]
    refine ⟨_, rfl, fun rs μ0 k K O hk hw n' hn' μ1 T => ?_⟩
    obtain ⟨N1', rfl⟩ : ∃ N, n' = N + 1 := ⟨n' - 1, by omega⟩
    rw [L_M_loud_17, show (61 : Int32) = nI 61 from rfl, ite_le (by omega) (by omega), if_pos (by omega)]
    exact ⟨j, μ1, rfl, by omega, T, by rw [if_pos (by omega)]⟩
  | succ d ih =>
    intro j hj n hn x hx
    obtain ⟨N1, rfl⟩ : ∃ N, n = N + 1 := ⟨n - 1, by omega⟩
    subst hx
    have hn := ns_le B j
    obtain ⟨r, r1, r2⟩ := ih (j + 1) (by omega) N1 (by omega) _ (nI_1 j)
    rw [L_BT_loud_16, q60, ite_lt (by omega) (by omega), if_neg (by omega), x_noise S B (by omega), Option.bind_some, ite_lt (by omega) (by omega)]
    by_cases c : ns σ j < Q
    · rw [if_pos c]
      refine ⟨r, r1, fun rs μ0 k K O hk hw n' hn' μ1 T => ?_⟩
      obtain ⟨N1', rfl⟩ : ∃ N, n' = N + 1 := ⟨n' - 1, by omega⟩
      have h4 : ∀ p, wn σ j 4 p ≤ 99999990 := fun p => by
        have := wn_4 hk p j
        omega
      have B1 := wn_bw B hk (k := j) (by omega) (by omega)
      obtain ⟨μ2, y1, y2⟩ := T.noise K (O.sb (wn_sb j)) B1
      obtain ⟨μ3, z1, z2⟩ := y2.wk K (O.sb (wn_sb j)) B1 h4
      rw [L_M_loud_17, show (61 : Int32) = nI 61 from rfl, ite_le (by omega) (by omega), if_neg (by omega), y1, Option.bind_some]
      simp only []
      rw [wn_ns, Nat.add_zero, ite_le (by omega) (by omega), if_neg (by omega), z1, Option.bind_some]
      have := r2 rs μ0 k K O hk hw N1' (by omega) μ3 z2
      rw [nI_1]
      exact this
    · rw [if_neg c]
      refine ⟨_, rfl, fun rs μ0 k K O hk hw n' hn' μ1 T => ?_⟩
      obtain ⟨N1', rfl⟩ : ∃ N, n' = N + 1 := ⟨n' - 1, by omega⟩
      have B1 := wn_bw B hk (k := j) (by omega) (by omega)
      obtain ⟨μ2, y1, y2⟩ := T.noise K (O.sb (wn_sb j)) B1
      rw [L_M_loud_17, show (61 : Int32) = nI 61 from rfl, ite_le (by omega) (by omega), if_neg (by omega), y1, Option.bind_some]
      simp only []
      rw [wn_ns, Nat.add_zero, ite_le (by omega) (by omega), if_pos (by omega)]
      exact ⟨j, μ2, rfl, by omega, y2, by rw [if_neg (by omega)]⟩
end CMD
section CMD
variable {μ μ' : Mm} {ν ν' : Ml}
theorem st_loud (I : Inv μ ν μ' ν') (a : Int32) : ∃ r μ1', F_BT_loud a μ = some r ∧ F_M_loud a μ' = some (r, μ1') ∧ Inv μ ν μ1' ν' := by
  obtain ⟨n, rsf, L, tx, σ, τ, im, h1, h2, hs, h8, h9, h10, h11, h12⟩ := id I
  obtain ⟨h3, h4, h5, h6, h7⟩ := id hs
  have K : MK (rsH rsf (σ 16 0)) μ' := Inv_MK h1 h7.2.2.2.1 h6.1
  have B := h7.1
  unfold F_BT_loud F_M_loud
  rcases noise_c a with ⟨Q, hQ, rfl, e1, e2⟩ | ⟨e1, e2⟩
  · obtain ⟨μ1, s1, s2⟩ := MT.save h5
    obtain ⟨r, r1, r2⟩ := loudXL h3 B hQ 61 0 (by omega) fu (fu_gt (by omega)) 0 rfl
    obtain ⟨i, μ2, i1, i2, i3, i4⟩ := r2 _ μ' (fun (x13 : Int32) (μ14 : Mm) => (F_M_putBack μ14).bind fun μ15 => (if 61 ≤ x13 then some ((-5), μ15) else some (x13, μ15))) K h7.2.2.1 h7.2.2.2.2.1 (by have := h7.2.2.2.2.2.2; omega) fu (fu_gt (by omega)) μ1 s2
    obtain ⟨μ3, b1, b2, b3, b4⟩ := i3.back (wn_sb i)
    have i1' : L_M_loud_17 (nI Q) (fun (x13 : Int32) (μ14 : Mm) => (F_M_putBack μ14).bind fun μ15 => (if 61 ≤ x13 then some ((-5), μ15) else some (x13, μ15))) fu 0 μ1 = _ := i1
    rw [e1, e2, Option.bind_some, Option.bind_some, if_neg one_ne, if_neg one_ne, r1, s1, Option.bind_some, i1', b1, Option.bind_some, show (61 : Int32) = nI 61 from rfl, ite_le (by omega) (by omega)]
    refine ⟨r, μ3, rfl, ?_, Inv.ask h1 h2 hs h8 h9 h10 h11 h12 Off.rf b4 b2 b3⟩
    rw [i4]
    split <;> rfl
  · rw [e1, e2, Option.bind_some, Option.bind_some, if_pos rfl, if_pos rfl]
    exact ⟨_, _, rfl, rfl, I⟩
theorem st_on (I : Inv μ ν μ' ν') (a b : Int32) : ∃ r μ1 μ1', F_BT_on a b μ = some (r, μ1) ∧ F_M_on a b μ' = some (r, μ1') ∧ Inv μ1 ν μ1' ν' := by
  obtain ⟨n, rsf, L, tx, σ, τ, im, h1, h2, hs, h8, h9, h10, h11, h12⟩ := id I
  obtain ⟨h3, h4, h5, h6, h7⟩ := id hs
  have K : MK (rsH rsf (σ 16 0)) μ' := Inv_MK h1 h7.2.2.2.1 h6.1
  have B := h7.1
  have h66 := B.1
  have O := h7.2.2.1
  have hk := h7.2.2.2.2.1
  have hw : σ 0 1 ≤ 19900 := by
    have := h7.2.2.2.2.2.2
    omega
  -- once WHAT is one that is told
  have key : ∀ (c : b = 0 ∨ b = 1 ∨ ∃ p, p < σ 0 0 ∧ b = nI (p + 10) ∧ b - 10 = nI p), ∃ (r : Int32) (μ1 μ1' : Mm), ((F_BT_within a 0 60).bind fun v5 => (if v5 = 0 then some ((-2), μ) else (if b = 0 then (F_Seat_noise 40 a μ).bind fun v19 => some (v19, μ) else (F_Seat_becomes 60 40 μ).bind fun μ7 => L_BT_on_58 a b (fun (μ15 : Mm) => (if b = 1 then (F_Seat_knowsOfAll 60 μ15).bind fun v17 => some (v17, μ15) else (rdI (μ15 64) 6 (b - 10)).bind fun v16 => some (v16, μ15))) fu 0 μ7))) = some (r, μ1) ∧ (((F_M_isWeeks a).bind fun v5 => (if v5 = 0 then some ((-2), μ') else (F_M_save μ').bind fun μ7 => (F_M_goWeeks a μ7).bind fun μ9 => jn (α := Int32 × Mm) (fun K21 => (if b = 0 then (F_M_noise μ9).bind fun p_ => match p_ with | (v14, μ15) => K21 (v14, μ15) else (if b = 1 then (F_M_allKnow μ9).bind fun v12 => K21 (v12, μ9) else (rdI (μ9 7) 6 (b - 10)).bind fun v11 => K21 (v11, μ9)))) (fun (p_ : Int32 × Mm) => match p_ with | (j17, μ18) => (F_M_putBack μ18).bind fun μ19 => some (j17, μ19)))) : Option (Int32 × Mm)) = some (r, μ1') ∧ Inv μ1 ν μ1' ν' := by
    intro c
    rcases weeks_c a with ⟨N, hN, rfl, e1, e2⟩ | ⟨e1, e2⟩
    · obtain ⟨μ1, s1, s2⟩ := MT.save h5
      obtain ⟨μ2, t1, t2⟩ := onML hN K O B hk hw (fun (μ6 : Mm) => some μ6) N 0 (by omega) fu (fu_gt (by omega)) 0 rfl μ1 s2
      have B1 := wn_bw B hk (k := N) (by omega) (by omega)
      unfold F_M_goWeeks
      rw [e1, e2, Option.bind_some, Option.bind_some, if_neg one_ne, if_neg one_ne, s1, Option.bind_some, t1, Option.bind_some, jn_e]
      by_cases c0 : b = 0
      · obtain ⟨μ3, n1, n2⟩ := t2.noise K (O.sb (wn_sb N)) B1
        obtain ⟨μ4, b1, b2, b3, b4⟩ := n2.back (wn_sb N)
        rw [if_pos c0, if_pos c0, x_noise h3 B (by omega), Option.bind_some, n1, Option.bind_some]
        simp only []
        rw [b1, Option.bind_some, wn_ns, Nat.add_zero]
        exact ⟨_, _, _, rfl, rfl, Inv.ask h1 h2 hs h8 h9 h10 h11 h12 Off.rf b4 b2 b3⟩
      · rw [if_neg c0, if_neg c0]
        obtain ⟨μ5, x1, x2⟩ := XT.start h3 h4 h7.2.1 (μ := μ) Off.rf
        obtain ⟨μ6, y1, y2⟩ := onXL hN B hk hw b (fun (μ15 : Mm) => (if b = 1 then (F_Seat_knowsOfAll 60 μ15).bind fun v17 => some (v17, μ15) else (rdI (μ15 64) 6 (b - 10)).bind fun v16 => some (v16, μ15))) N 0 (by omega) fu (fu_gt (by omega)) 0 rfl μ5 x2
        obtain ⟨μ4, b1, b2, b3, b4⟩ := t2.back (wn_sb N)
        rw [x1, Option.bind_some, y1]
        by_cases c1 : b = 1
        · rw [if_pos c1, if_pos c1, x_kns y2.1 B1, m_kns t2.1 B1, Option.bind_some, Option.bind_some]
          simp only []
          rw [b1, Option.bind_some]
          exact ⟨_, _, _, rfl, rfl, Inv.ask h1 h2 hs h8 h9 h10 h11 h12 y2.2.2 b4 b2 b3⟩
        · rw [if_neg c1, if_neg c1]
          rcases c with c | c | ⟨p, hp, c, c'⟩
          · exact absurd c c0
          · exact absurd c c1
          · have g1 : μ6 64 p = nI (wn σ N 4 p) := y2.1.2.2.2.2.2.2.2.2.2.2.1 p (by omega)
            have g2 : μ2 7 p = nI (wn σ N 4 p) := t2.1.2.2.2.2.2.2.2.1 p (by omega)
            rw [c', rdI_nI (by omega) (by omega), rdI_nI (by omega) (by omega), Option.bind_some, Option.bind_some, g1, g2]
            simp only []
            rw [b1, Option.bind_some]
            exact ⟨_, _, _, rfl, rfl, Inv.ask h1 h2 hs h8 h9 h10 h11 h12 y2.2.2 b4 b2 b3⟩
    · rw [e1, e2, Option.bind_some, Option.bind_some, if_pos rfl, if_pos rfl]
      exact ⟨_, _, _, rfl, rfl, I⟩
  unfold F_BT_on F_M_on
  rw [within_in]
  rcases in_lit (lo := 0) (hi := 1) (by omega) (by omega) b 0 1 rfl rfl with ⟨k, _, hk1, rfl, e⟩ | e
  · rw [e, Option.bind_some, Option.bind_some, jn_e, jn_e, if_neg one_ne, if_neg one_ne]
    refine key ?_
    rcases (show k = 0 ∨ k = 1 by omega) with rfl | rfl
    · exact Or.inl rfl
    · exact Or.inr (Or.inl rfl)
  · rw [e, Option.bind_some, Option.bind_some, jn_e, jn_e, if_pos rfl, if_pos rfl]
    rcases ofp_c h3 h5 B b with ⟨p, hp, e1, e2, e3, e4⟩ | ⟨e3, e4⟩
    · rw [e3, e4, Option.bind_some, Option.bind_some, if_neg one_ne, if_neg one_ne]
      exact key (Or.inr (Or.inr ⟨p, hp, e1, e2⟩))
    · rw [e3, e4, Option.bind_some, Option.bind_some, if_pos rfl, if_pos rfl]
      exact ⟨_, _, _, rfl, rfl, I⟩
end CMD
