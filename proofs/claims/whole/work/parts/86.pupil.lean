/-! pupil -/
theorem six_b {a b c d e f : Nat} (ha : a < 5) (hb : b < 5) (hc : c < 5) (hd : d < 5) (he : e < 5) (hf : f < 5) (h1 : a ≠ b) (h2 : a ≠ c) (h3 : a ≠ d) (h4 : a ≠ e) (h5 : a ≠ f) (h6 : b ≠ c) (h7 : b ≠ d) (h8 : b ≠ e) (h9 : b ≠ f) (i1 : c ≠ d) (i2 : c ≠ e) (i3 : c ≠ f) (i4 : d ≠ e) (i5 : d ≠ f) (i6 : e ≠ f) : False := by omega
/-- of six desks one is free for five -/
theorem free_5 {σ : Sg} (h5 : σ 0 0 ≤ 5) (h : ∀ i, i < 5 → wh σ i ≠ none) : wh σ 5 = none := by
  have g : ∀ i, i ≤ 5 → wh σ i ≠ none → ∃ q, q < 5 ∧ σ 3 q = i := fun i hi hn => by
    cases e : wh σ i with
    | none => exact absurd e hn
    | some q =>
      obtain ⟨w1, w2⟩ := wh_some e
      exact ⟨q, by omega, w2⟩
  cases e : wh σ 5 with
  | none => rfl
  | some q5 =>
    obtain ⟨f, f1, f2⟩ := g 5 (by omega) (by rw [e]; exact fun q => by cases q)
    obtain ⟨a, a1, a2⟩ := g 0 (by omega) (h 0 (by omega))
    obtain ⟨b, b1, b2⟩ := g 1 (by omega) (h 1 (by omega))
    obtain ⟨c, c1, c2⟩ := g 2 (by omega) (h 2 (by omega))
    obtain ⟨d, d1, d2⟩ := g 3 (by omega) (h 3 (by omega))
    obtain ⟨e', e1, e2⟩ := g 4 (by omega) (h 4 (by omega))
    have ne : ∀ x y i j, σ 3 x = i → σ 3 y = j → i ≠ j → x ≠ y := fun x y i j hx hy hij hxy => hij (by rw [← hx, ← hy, hxy])
    exact (six_b a1 b1 c1 d1 e1 f1 (ne a b 0 1 a2 b2 (by omega)) (ne a c 0 2 a2 c2 (by omega)) (ne a d 0 3 a2 d2 (by omega)) (ne a e' 0 4 a2 e2 (by omega)) (ne a f 0 5 a2 f2 (by omega)) (ne b c 1 2 b2 c2 (by omega)) (ne b d 1 3 b2 d2 (by omega)) (ne b e' 1 4 b2 e2 (by omega)) (ne b f 1 5 b2 f2 (by omega)) (ne c d 2 3 c2 d2 (by omega)) (ne c e' 2 4 c2 e2 (by omega)) (ne c f 2 5 c2 f2 (by omega)) (ne d e' 3 4 d2 e2 (by omega)) (ne d f 3 5 d2 f2 (by omega)) (ne e' f 4 5 e2 f2 (by omega))).elim
theorem freeL {σ : Sg} {μ μ' : Mm} (S : SR 40 σ μ) (M : MR σ μ') (B : BW σ) (h5 : σ 0 0 ≤ 5) (a b y a' b' : Int32) (k k' : Int32 → Option (Int32 × Mm)) : ∀ d j, j + d = 5 → (∀ i, i < j → wh σ i ≠ none) → ∀ n n', d < n → d < n' → ∀ x, x = nI j → ∃ e, e ≤ 5 ∧ wh σ e = none ∧ L_Seat_adds_8 40 a b y μ k n x = k (nI e) ∧ L_M_pupil_41 a' b' μ' k' n' x = k' (nI e) := by
  intro d
  induction d with
  | zero =>
    intro j hj h n n' hn hn' x hx
    obtain ⟨N1, rfl⟩ : ∃ N, n = N + 1 := ⟨n - 1, by omega⟩
    obtain ⟨N1', rfl⟩ : ∃ N, n' = N + 1 := ⟨n' - 1, by omega⟩
    have e : j = 5 := by omega
    subst e
    subst hx
    have fr := free_5 h5 h
    rw [L_Seat_adds_8, L_M_pupil_41, if_pos (by decide), m_wh M B (e := 5) (by omega), fr, Option.bind_some, if_pos (by decide)]
    exact ⟨5, Nat.le_refl _, fr, rfl, rfl⟩
  | succ d ih =>
    intro j hj h n n' hn hn' x hx
    obtain ⟨N1, rfl⟩ : ∃ N, n = N + 1 := ⟨n - 1, by omega⟩
    obtain ⟨N1', rfl⟩ : ∃ N, n' = N + 1 := ⟨n' - 1, by omega⟩
    subst hx
    rw [L_Seat_adds_8, L_M_pupil_41, q5, ite_le (by omega) (by omega), if_neg (by omega), x_wh S B (e := j) (by omega), m_wh M B (e := j) (by omega), Option.bind_some, Option.bind_some]
    cases e : wh σ j with
    | none =>
      rw [show whI none = -1 from rfl, show whM none = -5 from rfl, if_pos (by decide), if_pos (by decide)]
      exact ⟨j, by omega, e, rfl, rfl⟩
    | some q =>
      have q1 := (wh_some e).1
      rw [show whI (some q) = nI q from rfl, show whM (some q) = nI q from rfl, if_neg (nn_not_neg (by omega)), if_neg (nn_not_neg (by omega))]
      exact ih (j + 1) (by omega) (fun i hi => by
        by_cases c : i = j
        · rw [c, e]; exact fun q => by cases q
        · exact h i (by omega)) N1 N1' (by omega) (by omega) _ (nI_1 j)
def puS (σ : Sg) (k v e : Nat) : Sg := fun a => if a = 0 then (fun j => if j = 0 then σ 0 0 + 1 else if j = 3 then mset (σ 0 3) (σ 0 0) false else σ 0 j) else if a = 1 then (fun j => if j = σ 0 0 then k else σ 1 j) else if a = 2 then (fun j => if j = σ 0 0 then v else σ 2 j) else if a = 3 then (fun j => if j = σ 0 0 then e else σ 3 j) else if a = 4 then (fun j => if j = σ 0 0 then 0 else σ 4 j) else if a = 5 then (fun i => if σ 0 0 * 4 ≤ i ∧ i < σ 0 0 * 4 + 4 then 0 else σ 5 i) else σ a
theorem mset_id {m p : Nat} (h : m < 2 ^ p) : mset m p false = m := by
  unfold mset
  rw [if_neg (by decide), Nat.testBit_lt_two_pow h]
  rfl
theorem ckm_pu {σ : Sg} {k v e : Nat} (h5 : σ 0 0 ≤ 5) : ckm σ < 2 ^ σ 0 0 ∧ ckm (puS σ k v e) = ckm σ + if k = 5 then 2 ^ σ 0 0 else 0 := by
  have hc : ckm σ = pm (isck σ) (σ 0 0) := (ck_all (σ := σ) (by omega)).symm
  have hlt : pm (isck σ) (σ 0 0) < 2 ^ σ 0 0 := pm_lt _ _
  refine ⟨by rw [hc]; exact hlt, ?_⟩
  have h1 : ckm (puS σ k v e) = pm (isck (puS σ k v e)) (σ 0 0 + 1) := (ck_all (σ := puS σ k v e) (show σ 0 0 + 1 ≤ 6 by omega)).symm
  have h2 : ∀ n, n ≤ σ 0 0 → pm (isck (puS σ k v e)) n = pm (isck σ) n := by
    intro n
    induction n with
    | zero => intro _; rfl
    | succ n ih =>
      intro hn
      have e1 : isck (puS σ k v e) n = isck σ n := by
        show (decide (n < σ 0 0 + 1) && decide ((if n = σ 0 0 then k else σ 1 n) = 5)) = (decide (n < σ 0 0) && decide (σ 1 n = 5))
        rw [if_neg (by omega), decide_eq_true (show n < σ 0 0 + 1 by omega), decide_eq_true (show n < σ 0 0 by omega)]
      show pm (isck (puS σ k v e)) n + (if isck (puS σ k v e) n then 2 ^ n else 0) = pm (isck σ) n + (if isck σ n then 2 ^ n else 0)
      rw [ih (by omega), e1]
  have e2 : isck (puS σ k v e) (σ 0 0) = decide (k = 5) := by
    show (decide (σ 0 0 < σ 0 0 + 1) && decide ((if σ 0 0 = σ 0 0 then k else σ 1 (σ 0 0)) = 5)) = decide (k = 5)
    rw [if_pos rfl, decide_eq_true (by omega), Bool.true_and]
  rw [h1]
  show pm (isck (puS σ k v e)) (σ 0 0) + (if isck (puS σ k v e) (σ 0 0) then 2 ^ σ 0 0 else 0) = _
  rw [h2 _ (Nat.le_refl _), e2, hc]
  by_cases c : k = 5
  · rw [if_pos c, decide_eq_true c, if_pos rfl]
  · rw [if_neg c, decide_eq_false c, if_neg (by decide)]
/-- four LINES are emptied -/
theorem x_lnL {N : Nat} (hN : N ≤ 5) (a : Int32) (k : Mm → Option (Int32 × Mm)) : ∀ d j, j + d = 4 → ∀ n, d < n → ∀ x, x = nI j → ∀ μ : Mm, ∃ μ1, L_Seat_adds_61 40 a (nI N) k n x μ = k μ1 ∧ (∀ i, i < 24 → μ1 45 i = if N * 4 + j ≤ i ∧ i < N * 4 + 4 then 0 else μ 45 i) ∧ ∀ c, c ≠ 45 → μ1 c = μ c := by
  intro d
  induction d with
  | zero =>
    intro j hj n hn x hx μ
    obtain ⟨N1, rfl⟩ : ∃ N, n = N + 1 := ⟨n - 1, by omega⟩
    have e : j = 4 := by omega
    subst e
    subst hx
    rw [L_Seat_adds_61, if_pos (by decide)]
    exact ⟨μ, rfl, fun i hi => by rw [if_neg (by omega)], fun _ _ => rfl⟩
  | succ d ih =>
    intro j hj n hn x hx μ
    obtain ⟨N1, rfl⟩ : ∃ N, n = N + 1 := ⟨n - 1, by omega⟩
    subst hx
    obtain ⟨μ1, a1, a2, a3⟩ := ih (j + 1) (by omega) N1 (by omega) _ (nI_1 j) (up2 μ 45 (N * 4 + j) 0)
    rw [L_Seat_adds_61, q4, ite_le (by omega) (by omega), if_neg (by omega), pk_mul, nI_add, wrI_nI (b := 40 + 5) (by omega) (by omega), Option.bind_some]
    refine ⟨μ1, a1, fun i hi => ?_, fun c hc => by rw [a3 c hc, u_cf hc]⟩
    rw [a2 i hi]
    by_cases c : i = N * 4 + j
    · rw [if_neg (by omega), u_eq rfl c, if_pos (by omega)]
    · rw [u_nj c]
      by_cases c2 : N * 4 + (j + 1) ≤ i ∧ i < N * 4 + 4
      · rw [if_pos c2, if_pos (by omega)]
      · rw [if_neg c2, if_neg (by omega)]
theorem m_lnL {N : Nat} (hN : N ≤ 5) (k : Mm → Option (Int32 × Mm)) : ∀ d j, j + d = 4 → ∀ n, d < n → ∀ x, x = nI j → ∀ μ : Mm, μ 0 0 = nI N → ∃ μ1, L_M_pupil_115 k n x μ = k μ1 ∧ (∀ i, i < 24 → μ1 8 i = if N * 4 + j ≤ i ∧ i < N * 4 + 4 then 0 else μ 8 i) ∧ ∀ c, c ≠ 8 → μ1 c = μ c := by
  intro d
  induction d with
  | zero =>
    intro j hj n hn x hx μ h0
    obtain ⟨N1, rfl⟩ : ∃ N, n = N + 1 := ⟨n - 1, by omega⟩
    have e : j = 4 := by omega
    subst e
    subst hx
    rw [L_M_pupil_115, if_pos (by decide)]
    exact ⟨μ, rfl, fun i hi => by rw [if_neg (by omega)], fun _ _ => rfl⟩
  | succ d ih =>
    intro j hj n hn x hx μ h0
    obtain ⟨N1, rfl⟩ : ∃ N, n = N + 1 := ⟨n - 1, by omega⟩
    subst hx
    obtain ⟨μ1, a1, a2, a3⟩ := ih (j + 1) (by omega) N1 (by omega) _ (nI_1 j) (up2 μ 8 (4 * N + j) 0) ((u_nc (by omega)).trans h0)
    rw [L_M_pupil_115, q4, ite_le (by omega) (by omega), if_neg (by omega), h0, pk_mul, nI_add, wrI_nI (by omega) (by omega), Option.bind_some]
    refine ⟨μ1, a1, fun i hi => ?_, fun c hc => by rw [a3 c hc, u_cf hc]⟩
    rw [a2 i hi]
    by_cases c : i = 4 * N + j
    · rw [if_neg (by omega), u_eq rfl c, if_pos (by omega)]
    · rw [u_nj c]
      by_cases c2 : N * 4 + (j + 1) ≤ i ∧ i < N * 4 + 4
      · rw [if_pos c2, if_pos (by omega)]
      · rw [if_neg c2, if_neg (by omega)]
theorem x_adds {σ : Sg} {μ : Mm} {k v e : Nat} (S : SR 40 σ μ) (B : BW σ) (h5 : σ 0 0 ≤ 5) (hk : k ≤ 6) (K : Int32 → Option (Int32 × Mm)) (hK : K = fun (x8 : Int32) => (wrI μ 41 6 (nI (σ 0 0)) (nI k)).bind fun μ9 => (wrI μ9 42 6 (nI (σ 0 0)) (nI v)).bind fun μ10 => (wrI μ10 43 6 (nI (σ 0 0)) x8).bind fun μ11 => (wrI μ11 44 6 (nI (σ 0 0)) 0).bind fun μ12 => L_Seat_adds_61 40 (nI k) (nI (σ 0 0)) (fun (μ19 : Mm) => (F_Seat_setAway 40 (nI (σ 0 0)) 0 μ19).bind fun μ20 => jn (α := Int32) (fun K25 => (if nI k = 5 then K25 ((μ20 40 8) ||| (1 <<< (nI (σ 0 0) &&& 31))) else K25 ((μ20 40 8) &&& ((1 <<< (nI (σ 0 0) &&& 31)) ^^^ (-1))))) (fun (j22 : Int32) => lt_ (up2 μ20 40 8 j22) fun μ23 => lt_ (up2 μ23 40 1 ((μ23 40 1) + 1)) fun μ24 => some (nI (σ 0 0), μ24))) fu 0 μ12) : ∃ μ1, K (nI e) = some (nI (σ 0 0), μ1) ∧ SR 40 (puS σ k v e) μ1 ∧ (∀ c, (c < 40 ∨ 45 < c) → μ1 c = μ c) ∧ μ1 40 6 = μ 40 6 := by
  obtain ⟨s1, s2, s3, s4, s5, s6, s7, s8, s9, s10, s11, s12, s13⟩ := id S
  subst hK
  have hN : σ 0 0 < 6 := by omega
  obtain ⟨μ5, a1, a2, a3⟩ := x_lnL (N := σ 0 0) h5 (nI k) (fun (μ19 : Mm) => (F_Seat_setAway 40 (nI (σ 0 0)) 0 μ19).bind fun μ20 => jn (α := Int32) (fun K25 => (if nI k = 5 then K25 ((μ20 40 8) ||| (1 <<< (nI (σ 0 0) &&& 31))) else K25 ((μ20 40 8) &&& ((1 <<< (nI (σ 0 0) &&& 31)) ^^^ (-1))))) (fun (j22 : Int32) => lt_ (up2 μ20 40 8 j22) fun μ23 => lt_ (up2 μ23 40 1 ((μ23 40 1) + 1)) fun μ24 => some (nI (σ 0 0), μ24))) 4 0 (by omega) fu (fu_gt (by omega)) 0 rfl (up2 (up2 (up2 (up2 μ 41 (σ 0 0) (nI k)) 42 (σ 0 0) (nI v)) 43 (σ 0 0) (nI e)) 44 (σ 0 0) 0)
  have f40 : μ5 40 = μ 40 := by rw [a3 40 (by omega), u_cf (by omega), u_cf (by omega), u_cf (by omega), u_cf (by omega)]
  obtain ⟨ck1, ck2⟩ := ckm_pu (σ := σ) (k := k) (v := v) (e := e) h5
  have hm := B.2.2.2.1
  have eaw : F_Seat_setAway 40 (nI (σ 0 0)) 0 μ5 = some (up2 μ5 40 7 (nI (mset (σ 0 3) (σ 0 0) false))) := by
    unfold F_Seat_setAway
    rw [jn_e, if_pos rfl, f40, s4, mset_0 _ hm _ hN]
    exact lt_e _ _
  have e8 : up2 μ5 40 7 (nI (mset (σ 0 3) (σ 0 0) false)) 40 8 = nI (ckm σ) := by rw [u_nj (by omega), f40]; exact s7
  have key : ∀ j22 : Int32, j22 = nI (ckm (puS σ k v e)) → (lt_ (up2 (up2 μ5 40 7 (nI (mset (σ 0 3) (σ 0 0) false))) 40 8 j22) fun μ23 => lt_ (up2 μ23 40 1 ((μ23 40 1) + 1)) fun μ24 => some (nI (σ 0 0), μ24)) = some (nI (σ 0 0), up2 (up2 (up2 μ5 40 7 (nI (mset (σ 0 3) (σ 0 0) false))) 40 8 (nI (ckm (puS σ k v e)))) 40 1 (nI (σ 0 0 + 1))) := fun j22 hj => by
    subst hj
    rw [lt_e, u_nj (by omega), u_nj (by omega), f40, s1, nI_1]
    exact lt_e _ _
  refine ⟨up2 (up2 (up2 μ5 40 7 (nI (mset (σ 0 3) (σ 0 0) false))) 40 8 (nI (ckm (puS σ k v e)))) 40 1 (nI (σ 0 0 + 1)), ?_, ?_, fun c hc => by rw [u_cf (by omega), u_cf (by omega), u_cf (by omega), a3 c (by omega), u_cf (by omega), u_cf (by omega), u_cf (by omega), u_cf (by omega)], by rw [u_nj (by omega), u_nj (by omega), u_nj (by omega), f40]⟩
  · show ((wrI μ 41 6 (nI (σ 0 0)) (nI k)).bind fun μ9 => (wrI μ9 42 6 (nI (σ 0 0)) (nI v)).bind fun μ10 => (wrI μ10 43 6 (nI (σ 0 0)) (nI e)).bind fun μ11 => (wrI μ11 44 6 (nI (σ 0 0)) 0).bind fun μ12 => L_Seat_adds_61 40 (nI k) (nI (σ 0 0)) _ fu 0 μ12) = _
    rw [wrI_nI hN (by omega), Option.bind_some, wrI_nI hN (by omega), Option.bind_some, wrI_nI hN (by omega), Option.bind_some, wrI_nI hN (by omega), Option.bind_some, a1, eaw, Option.bind_some, jn_e, e8, q5, ite_eq (by omega) (by omega)]
    by_cases c : k = 5
    · rw [if_pos c, or_bit _ hN _ ck1]
      exact key _ (by rw [ck2, if_pos c])
    · rw [if_neg c, mset_0 _ (ckm_lt σ) _ hN, mset_id ck1]
      exact key _ (by rw [ck2, if_neg c]; rfl)
  · unfold SR
    refine ⟨u_eq rfl rfl, ?_, ?_, ?_, ?_, ?_, ?_, fun q hq => ?_, fun q hq => ?_, fun q hq => ?_, fun q hq => ?_, fun i hi => ?_, fun i hi => ?_⟩
    · rw [u_nj (by omega), u_nj (by omega), u_nj (by omega), f40]; exact s2
    · rw [u_nj (by omega), u_nj (by omega), u_nj (by omega), f40]; exact s3
    · rw [u_nj (by omega), u_nj (by omega)]; exact u_eq rfl rfl
    · rw [u_nj (by omega), u_nj (by omega), u_nj (by omega), f40]; exact s5
    · rw [u_nj (by omega), u_nj (by omega), u_nj (by omega), f40]; exact s6
    · rw [u_nj (by omega)]; exact u_eq rfl rfl
    · rw [u_nc (by omega), u_nc (by omega), u_nc (by omega), a3 41 (by omega), u_nc (by omega), u_nc (by omega), u_nc (by omega)]
      show _ = nI (if q = σ 0 0 then k else σ 1 q)
      by_cases c : q = σ 0 0
      · rw [if_pos c, u_eq rfl c]
      · rw [if_neg c, u_nj c]; exact s8 q hq
    · rw [u_nc (by omega), u_nc (by omega), u_nc (by omega), a3 42 (by omega), u_nc (by omega), u_nc (by omega)]
      show _ = nI (if q = σ 0 0 then v else σ 2 q)
      by_cases c : q = σ 0 0
      · rw [if_pos c, u_eq rfl c]
      · rw [if_neg c, u_nj c, u_nc (by omega)]; exact s9 q hq
    · rw [u_nc (by omega), u_nc (by omega), u_nc (by omega), a3 43 (by omega), u_nc (by omega)]
      show _ = nI (if q = σ 0 0 then e else σ 3 q)
      by_cases c : q = σ 0 0
      · rw [if_pos c, u_eq rfl c]
      · rw [if_neg c, u_nj c, u_nc (by omega), u_nc (by omega)]; exact s10 q hq
    · rw [u_nc (by omega), u_nc (by omega), u_nc (by omega), a3 44 (by omega)]
      show _ = nI (if q = σ 0 0 then 0 else σ 4 q)
      by_cases c : q = σ 0 0
      · rw [if_pos c, u_eq rfl c]; rfl
      · rw [if_neg c, u_nj c, u_nc (by omega), u_nc (by omega), u_nc (by omega)]; exact s11 q hq
    · rw [u_nc (by omega), u_nc (by omega), u_nc (by omega), a2 i hi, Nat.add_zero]
      show _ = nI (if σ 0 0 * 4 ≤ i ∧ i < σ 0 0 * 4 + 4 then 0 else σ 5 i)
      by_cases c : σ 0 0 * 4 ≤ i ∧ i < σ 0 0 * 4 + 4
      · rw [if_pos c, if_pos c]; rfl
      · rw [if_neg c, if_neg c, u_nc (by omega), u_nc (by omega), u_nc (by omega), u_nc (by omega)]; exact s12 i hi
    · rw [u_nc (by omega), u_nc (by omega), u_nc (by omega), a3 46 (by omega), u_nc (by omega), u_nc (by omega), u_nc (by omega), u_nc (by omega)]
      exact s13 i hi
theorem m_adds {σ : Sg} {μ : Mm} {k v e : Nat} (S : MR σ μ) (B : BW σ) (h5 : σ 0 0 ≤ 5) (K : Int32 → Option (Int32 × Mm)) (hK : K = fun (x10 : Int32) => (wrI μ 4 6 (μ 0 0) (nI k)).bind fun μ11 => (wrI μ11 5 6 (μ11 0 0) (nI v)).bind fun μ12 => (wrI μ12 6 6 (μ12 0 0) x10).bind fun μ13 => (wrI μ13 7 6 (μ13 0 0) 0).bind fun μ14 => lt_ (up2 μ14 0 1 ((μ14 0 1) &&& ((1 <<< ((μ14 0 0) &&& 31)) ^^^ (-1)))) fun μ15 => L_M_pupil_115 (fun (μ19 : Mm) => lt_ (up2 μ19 0 0 ((μ19 0 0) + 1)) fun μ20 => some (((μ20 0 0) - 1), μ20)) fu 0 μ15) : ∃ μ1, K (nI e) = some (nI (σ 0 0), μ1) ∧ MR (puS σ k v e) μ1 ∧ (∀ c, c ≠ 0 → 8 < c → μ1 c = μ c) ∧ ∀ j, 1 < j → μ1 0 j = μ 0 j := by
  obtain ⟨s1, s2, s3, s4, s5, s6, s7, s8, s9⟩ := id S
  subst hK
  have hN : σ 0 0 < 6 := by omega
  have hm := B.2.2.2.1
  have g0 : ∀ j, up2 (up2 (up2 (up2 μ 4 (σ 0 0) (nI k)) 5 (σ 0 0) (nI v)) 6 (σ 0 0) (nI e)) 7 (σ 0 0) 0 0 j = μ 0 j := fun j => by rw [u_nc (by omega), u_nc (by omega), u_nc (by omega), u_nc (by omega)]
  have c1 : up2 μ 4 (σ 0 0) (nI k) 0 0 = nI (σ 0 0) := (u_nc (by omega)).trans s1
  have c2 : up2 (up2 μ 4 (σ 0 0) (nI k)) 5 (σ 0 0) (nI v) 0 0 = nI (σ 0 0) := (u_nc (by omega)).trans c1
  have c3 : up2 (up2 (up2 μ 4 (σ 0 0) (nI k)) 5 (σ 0 0) (nI v)) 6 (σ 0 0) (nI e) 0 0 = nI (σ 0 0) := (u_nc (by omega)).trans c2
  obtain ⟨μ5, a1, a2, a3⟩ := m_lnL (N := σ 0 0) h5 (fun (μ19 : Mm) => lt_ (up2 μ19 0 0 ((μ19 0 0) + 1)) fun μ20 => some (((μ20 0 0) - 1), μ20)) 4 0 (by omega) fu (fu_gt (by omega)) 0 rfl (up2 (up2 (up2 (up2 (up2 μ 4 (σ 0 0) (nI k)) 5 (σ 0 0) (nI v)) 6 (σ 0 0) (nI e)) 7 (σ 0 0) 0) 0 1 (nI (mset (σ 0 3) (σ 0 0) false))) (by rw [u_nj (by omega), g0]; exact s1)
  have e00 : μ5 0 0 = nI (σ 0 0) := by rw [a3 0 (by omega), u_nj (by omega), g0]; exact s1
  refine ⟨up2 μ5 0 0 (nI (σ 0 0 + 1)), ?_, ?_, fun c hc h8 => by rw [u_cf hc, a3 c (by omega), u_cf hc, u_cf (by omega), u_cf (by omega), u_cf (by omega), u_cf (by omega)], fun j hj => by rw [u_nj (by omega), a3 0 (by omega), u_nj (by omega), g0]⟩
  · show ((wrI μ 4 6 (μ 0 0) (nI k)).bind fun μ11 => (wrI μ11 5 6 (μ11 0 0) (nI v)).bind fun μ12 => (wrI μ12 6 6 (μ12 0 0) (nI e)).bind fun μ13 => (wrI μ13 7 6 (μ13 0 0) 0).bind fun μ14 => lt_ (up2 μ14 0 1 ((μ14 0 1) &&& ((1 <<< ((μ14 0 0) &&& 31)) ^^^ (-1)))) fun μ15 => L_M_pupil_115 _ fu 0 μ15) = _
    rw [s1, wrI_nI hN (by omega), Option.bind_some, c1, wrI_nI hN (by omega), Option.bind_some, c2, wrI_nI hN (by omega), Option.bind_some, c3, wrI_nI hN (by omega), Option.bind_some, lt_e, g0, g0, s1, s4, mset_0 _ hm _ hN, a1, lt_e, e00, nI_1, u_eq rfl rfl, show nI (σ 0 0 + 1) - 1 = nI (σ 0 0) from nI_s _ 1]
  · unfold MR
    refine ⟨u_eq rfl rfl, ?_, ?_, ?_, fun q hq => ?_, fun q hq => ?_, fun q hq => ?_, fun q hq => ?_, fun i hi => ?_⟩
    · rw [u_nj (by omega), a3 0 (by omega), u_nj (by omega), g0]; exact s2
    · rw [u_nj (by omega), a3 0 (by omega), u_nj (by omega), g0]; exact s3
    · rw [u_nj (by omega), a3 0 (by omega)]; exact u_eq rfl rfl
    · rw [u_nc (by omega), a3 4 (by omega), u_nc (by omega), u_nc (by omega), u_nc (by omega), u_nc (by omega)]
      show _ = nI (if q = σ 0 0 then k else σ 1 q)
      by_cases c : q = σ 0 0
      · rw [if_pos c, u_eq rfl c]
      · rw [if_neg c, u_nj c]; exact s5 q hq
    · rw [u_nc (by omega), a3 5 (by omega), u_nc (by omega), u_nc (by omega), u_nc (by omega)]
      show _ = nI (if q = σ 0 0 then v else σ 2 q)
      by_cases c : q = σ 0 0
      · rw [if_pos c, u_eq rfl c]
      · rw [if_neg c, u_nj c, u_nc (by omega)]; exact s6 q hq
    · rw [u_nc (by omega), a3 6 (by omega), u_nc (by omega), u_nc (by omega)]
      show _ = nI (if q = σ 0 0 then e else σ 3 q)
      by_cases c : q = σ 0 0
      · rw [if_pos c, u_eq rfl c]
      · rw [if_neg c, u_nj c, u_nc (by omega), u_nc (by omega)]; exact s7 q hq
    · rw [u_nc (by omega), a3 7 (by omega), u_nc (by omega)]
      show _ = nI (if q = σ 0 0 then 0 else σ 4 q)
      by_cases c : q = σ 0 0
      · rw [if_pos c, u_eq rfl c]; rfl
      · rw [if_neg c, u_nj c, u_nc (by omega), u_nc (by omega), u_nc (by omega)]; exact s8 q hq
    · rw [u_nc (by omega), a2 i hi, Nat.add_zero]
      show _ = nI (if σ 0 0 * 4 ≤ i ∧ i < σ 0 0 * 4 + 4 then 0 else σ 5 i)
      by_cases c : σ 0 0 * 4 ≤ i ∧ i < σ 0 0 * 4 + 4
      · rw [if_pos c, if_pos c]; rfl
      · rw [if_neg c, if_neg c, u_nc (by omega), u_nc (by omega), u_nc (by omega), u_nc (by omega), u_nc (by omega)]; exact s9 i hi
theorem BW_pu {σ : Sg} {k v e : Nat} (B : BW σ) (h5 : σ 0 0 ≤ 5) (hk : k ≤ 6) (hv : v ≤ 9) (he : e ≤ 5) : BW (puS σ k v e) := by
  obtain ⟨b1, b2, b3, b4, b5, b6, b7, b8, b9, b10, b11, b12⟩ := B
  refine ⟨(show σ 0 0 + 1 ≤ 6 by omega), b2, b3, (mset_lt _ b4 _ (by omega)).2, b5, b6, fun p => ?_, fun p => ?_, fun p => ?_, fun p => ?_, fun i => ?_, b12⟩
  · have := b7 p
    show (if p = σ 0 0 then k else σ 1 p) ≤ 6
    split <;> omega
  · have := b8 p
    show (if p = σ 0 0 then v else σ 2 p) ≤ 9
    split <;> omega
  · have := b9 p
    show (if p = σ 0 0 then e else σ 3 p) ≤ 5
    split <;> omega
  · have := b10 p
    show (if p = σ 0 0 then 0 else σ 4 p) ≤ 100000000
    split <;> omega
  · have := b11 i
    show (if σ 0 0 * 4 ≤ i ∧ i < σ 0 0 * 4 + 4 then 0 else σ 5 i) ≤ 9
    split <;> omega
theorem MO_pu {rs : Rsp} {σ : Sg} {k v e : Nat} (O : MO rs σ) : MO rs (row (puS σ k v e) 6 (mth rs (puS σ k v e) (6 * σ 0 0) (6 * (σ 0 0 + 1)))) := by
  obtain ⟨o1, o2, o3⟩ := O
  refine ⟨o1, o2, fun q d hq hd => ?_⟩
  replace hq : q < σ 0 0 + 1 := hq
  show mth rs (puS σ k v e) (6 * σ 0 0) (6 * (σ 0 0 + 1)) (q * 6 + d) = rs.2.2 q d (puS σ k v e 1 q) (puS σ k v e 2 q)
  unfold mth
  by_cases c : q = σ 0 0
  · rw [if_pos (by omega), show (q * 6 + d) / 6 = q by omega, show (q * 6 + d) % 6 = d by omega]
  · rw [if_neg (by omega)]
    show σ 6 (q * 6 + d) = rs.2.2 q d (if q = σ 0 0 then k else σ 1 q) (if q = σ 0 0 then v else σ 2 q)
    rw [if_neg c, if_neg c]
    exact o3 q d (by omega) hd
section CMD
variable {μ μ' : Mm} {ν ν' : Ml}
theorem st_pupil (I : Inv μ ν μ' ν') (a b : Int32) : ∃ r μ1 μ1', F_BT_pupil a b μ = some (r, μ1) ∧ F_M_pupil a b μ' = some (r, μ1') ∧ Inv μ1 ν μ1' ν' := by
  obtain ⟨n, rsf, L, tx, σ, τ, im, h1, h2, hs, h8, h9, h10, h11, h12⟩ := id I
  obtain ⟨h3, h4, h5, h6, h7⟩ := id hs
  have B := h7.1
  have h66 := B.1
  unfold F_BT_pupil F_M_pupil
  rw [within_in, within_in]
  rcases in_lit (lo := 0) (hi := 6) (by omega) (by omega) a 0 6 rfl rfl with ⟨k, _, hk, rfl, e⟩ | e
  · rw [e, Option.bind_some, Option.bind_some, if_neg one_ne, if_neg one_ne]
    rcases in_lit (lo := 0) (hi := 9) (by omega) (by omega) b 0 9 rfl rfl with ⟨v, _, hv, rfl, e'⟩ | e'
    · rw [e', Option.bind_some, Option.bind_some, if_neg one_ne, if_neg one_ne, h3.1, h5.1, q6, ite_lt (by omega) (by omega), ite_eq (by omega) (by omega)]
      by_cases c : σ 0 0 = 6
      · rw [if_neg (by omega), if_pos c]
        exact ⟨_, _, _, rfl, rfl, I⟩
      · have hN5 : σ 0 0 ≤ 5 := by omega
        rw [if_pos (by omega), if_neg c]
        obtain ⟨d, d1, d2, d3, d4⟩ := freeL h3 h5 B hN5 (nI k) (nI v) (nI (σ 0 0)) (nI k) (nI v) (fun (x8 : Int32) => (wrI μ 41 6 (nI (σ 0 0)) (nI k)).bind fun μ9 => (wrI μ9 42 6 (nI (σ 0 0)) (nI v)).bind fun μ10 => (wrI μ10 43 6 (nI (σ 0 0)) x8).bind fun μ11 => (wrI μ11 44 6 (nI (σ 0 0)) 0).bind fun μ12 => L_Seat_adds_61 40 (nI k) (nI (σ 0 0)) (fun (μ19 : Mm) => (F_Seat_setAway 40 (nI (σ 0 0)) 0 μ19).bind fun μ20 => jn (α := Int32) (fun K25 => (if nI k = 5 then K25 ((μ20 40 8) ||| (1 <<< (nI (σ 0 0) &&& 31))) else K25 ((μ20 40 8) &&& ((1 <<< (nI (σ 0 0) &&& 31)) ^^^ (-1))))) (fun (j22 : Int32) => lt_ (up2 μ20 40 8 j22) fun μ23 => lt_ (up2 μ23 40 1 ((μ23 40 1) + 1)) fun μ24 => some (nI (σ 0 0), μ24))) fu 0 μ12) (fun (x10 : Int32) => (wrI μ' 4 6 (μ' 0 0) (nI k)).bind fun μ11 => (wrI μ11 5 6 (μ11 0 0) (nI v)).bind fun μ12 => (wrI μ12 6 6 (μ12 0 0) x10).bind fun μ13 => (wrI μ13 7 6 (μ13 0 0) 0).bind fun μ14 => lt_ (up2 μ14 0 1 ((μ14 0 1) &&& ((1 <<< ((μ14 0 0) &&& 31)) ^^^ (-1)))) fun μ15 => L_M_pupil_115 (fun (μ19 : Mm) => lt_ (up2 μ19 0 0 ((μ19 0 0) + 1)) fun μ20 => some (((μ20 0 0) - 1), μ20)) fu 0 μ15) 5 0 (by omega) (fun i hi => absurd hi (Nat.not_lt_zero i)) fu fu (fu_gt (by omega)) (fu_gt (by omega)) 0 rfl
        obtain ⟨μ1, x1, x2, x3, x4⟩ := x_adds (k := k) (v := v) (e := d) h3 B hN5 hk _ rfl
        obtain ⟨μ1', y1, y2, y3, y4⟩ := m_adds (k := k) (v := v) (e := d) h5 B hN5 _ rfl
        have hh := h7.2.2.2.1
        have Bp := BW_pu (k := k) (v := v) (e := d) B hN5 hk hv d1
        have D1 : RDS (hdI (σ 16 0)) (rsH rsf (σ 16 0)) 40 μ1 := (Inv_RDS h1 hh (by decide)).mv (fun c a b => x3 c (by omega))
        obtain ⟨μ2, z1, z2, z3, z4⟩ := x_set (b := 40) (by omega) Bp D1 (x4.trans h4.2.2.2) x2 (lo := σ 0 0) (hi := σ 0 0 + 1) (by omega) (by omega)
        have ra : F_Seat_adds 40 (nI k) (nI v) μ = some (nI (σ 0 0), μ1) := by
          unfold F_Seat_adds
          rw [h3.1]
          exact d3.trans x1
        have rm : L_M_pupil_41 (nI k) (nI v) μ' (fun (x10 : Int32) => (wrI μ' 4 6 (μ' 0 0) (nI k)).bind fun μ11 => (wrI μ11 5 6 (μ11 0 0) (nI v)).bind fun μ12 => (wrI μ12 6 6 (μ12 0 0) x10).bind fun μ13 => (wrI μ13 7 6 (μ13 0 0) 0).bind fun μ14 => lt_ (up2 μ14 0 1 ((μ14 0 1) &&& ((1 <<< ((μ14 0 0) &&& 31)) ^^^ (-1)))) fun μ15 => L_M_pupil_115 (fun (μ19 : Mm) => lt_ (up2 μ19 0 0 ((μ19 0 0) + 1)) fun μ20 => some (((μ20 0 0) - 1), μ20)) fu 0 μ15) fu 0 = some (nI (σ 0 0), μ1') := d4.trans y1
        rw [ra, Option.bind_some]
        simp only []
        rw [nI_1, z1, Option.bind_some]
        refine ⟨nI (σ 0 0), μ2, μ1', rfl, ?_, ?_⟩
        · rw [h5.1] at rm
          exact rm
        · have wn : ∀ q, q < σ 0 0 → σ 3 q ≠ d := fun q hq => wh_none d2 hq
          have X2 : SX 40 (row (puS σ k v d) 6 (mth (rsH rsf (σ 16 0)) (puS σ k v d) (6 * σ 0 0) (6 * (σ 0 0 + 1)))) μ2 := by
            have : SX 40 σ μ2 := h4.keep (fun c a b => by rw [z3 c (by omega) (by omega), x3 c (by omega)]) (by rw [z3 40 (by omega) (by omega)]; exact x4)
            exact this
          have M2 : MX (row (puS σ k v d) 6 (mth (rsH rsf (σ 16 0)) (puS σ k v d) (6 * σ 0 0) (6 * (σ 0 0 + 1)))) μ1' := by
            have : MX σ μ1' := by
              unfold MX
              rw [y4 10 (by omega), y4 34 (by omega), y4 37 (by omega), y4 38 (by omega), y3 35 (by omega) (by omega), y3 36 (by omega) (by omega), y3 39 (by omega) (by omega), y3 40 (by omega) (by omega), y3 41 (by omega) (by omega), y3 42 (by omega) (by omega)]
              exact h6
            exact this
          have G2 : GS n rsf (row (puS σ k v d) 6 (mth (rsH rsf (σ 16 0)) (puS σ k v d) (6 * σ 0 0) (6 * (σ 0 0 + 1)))) := by
            refine ⟨BW_row6 Bp (mth_le Bp (Inv_RB h1 hh) _ _), h7.2.1, MO_pu h7.2.2.1, hh, fun q => ?_, fun q q' hq hq' hqq => ?_, h7.2.2.2.2.2.2⟩
            · show (if q = σ 0 0 then 0 else σ 4 q) ≤ 9999
              have := h7.2.2.2.2.1 q
              split <;> omega
            · replace hq : q < σ 0 0 + 1 := hq
              replace hq' : q' < σ 0 0 + 1 := hq'
              replace hqq : (if q = σ 0 0 then d else σ 3 q) = (if q' = σ 0 0 then d else σ 3 q') := hqq
              by_cases c1 : q = σ 0 0
              · rw [if_pos c1] at hqq
                by_cases c2 : q' = σ 0 0
                · omega
                · rw [if_neg c2] at hqq
                  exact absurd hqq.symm (wn q' (by omega))
              · rw [if_neg c1] at hqq
                by_cases c2 : q' = σ 0 0
                · rw [if_pos c2] at hqq
                  exact absurd hqq (wn q (by omega))
                · rw [if_neg c2] at hqq
                  exact h7.2.2.2.2.2.1 q q' (by omega) (by omega) hqq
          have k1 : Inv (fun c => if c = 1 then μ 1 else μ2 c) ν μ1' ν' := Inv.now (σ := row (puS σ k v d) 6 (mth (rsH rsf (σ 16 0)) (puS σ k v d) (6 * σ 0 0) (6 * (σ 0 0 + 1)))) h1 h2 h8 h9 h10 h11 h12 (fun c hc => by
            show (if c = 1 then μ 1 else μ2 c) = μ c
            by_cases c1 : c = 1
            · rw [if_pos c1, c1]
            · rw [if_neg c1, z3 c c1 (by omega), x3 c (by omega)]) ⟨fun c hc => y3 c (by omega) (by omega), fun j hj => y4 j (by omega)⟩ ⟨z2.keep (fun c a b => if_neg (by omega)), X2.keep (fun c a b => if_neg (by omega)) (by show (if (40 : Nat) = 1 then μ 1 else μ2 40) 6 = μ2 40 6; rw [if_neg (by omega)]), y2, M2, G2⟩
          refine k1.j ⟨fun c c1 c13 hc => (if_neg c1).symm, ?_⟩ MJ.rf
          show μ2 1 2 = (if (1 : Nat) = 1 then μ 1 else μ2 1) 2
          rw [if_pos rfl, z4, x3 1 (by omega)]
    · rw [e', Option.bind_some, Option.bind_some, if_pos rfl, if_pos rfl]
      exact ⟨_, _, _, rfl, rfl, I⟩
  · rw [e, Option.bind_some, Option.bind_some, if_pos rfl, if_pos rfl]
    exact ⟨_, _, _, rfl, rfl, I⟩
end CMD
