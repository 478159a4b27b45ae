/-! feed, term, ends, image, undo -/
theorem IM.g {n : Nat} {rsf : Nat → Rsp} {im : Bool} {τ : Sg} {μ μ' μ1 μ1' : Mm} (h : IM n rsf im τ μ μ') (g0 : μ1 0 3 = μ 0 3) (gx : ∀ c, 80 ≤ c → c ≤ 95 → μ1 c = μ c) (gm : ∀ c, 52 ≤ c → c ≤ 62 → μ1' c = μ' c) (gm0 : ∀ j, 43 ≤ j → j ≤ 51 → μ1' 0 j = μ' 0 j) : IM n rsf im τ μ1 μ1' := by
  refine ⟨g0.trans h.1, (gm0 43 (by omega) (by omega)).trans h.2.1, fun hi => ?_⟩
  obtain ⟨a, b, c, d⟩ := h.2.2 hi
  refine ⟨a.keep (fun c _ _ => gx c (by omega) (by omega)), b.keep (fun c _ _ => gx c (by omega) (by omega)) (by rw [gx 80 (by omega) (by omega)]), ?_, d⟩
  unfold MI
  rw [gm0 44 (by omega) (by omega), gm0 45 (by omega) (by omega), gm0 46 (by omega) (by omega), gm0 47 (by omega) (by omega), gm0 48 (by omega) (by omega), gm0 49 (by omega) (by omega), gm0 50 (by omega) (by omega), gm0 51 (by omega) (by omega), gm 52 (by omega) (by omega), gm 53 (by omega) (by omega), gm 54 (by omega) (by omega), gm 55 (by omega) (by omega), gm 56 (by omega) (by omega), gm 57 (by omega) (by omega), gm 58 (by omega) (by omega), gm 59 (by omega) (by omega), gm 60 (by omega) (by omega), gm 61 (by omega) (by omega), gm 62 (by omega) (by omega)]
  exact c
theorem RR.g {n : Nat} {rsf : Nat → Rsp} {μ μ' μ1 μ1' : Mm} (h : RR n rsf μ μ') (g1 : μ1 1 2 = μ 1 2) (g2 : ∀ i, i < n → μ1 (3 + i) = μ (3 + i) ∧ μ1 10 i = μ 10 i) (m0 : μ1' 0 9 = μ' 0 9) (gm : ∀ c, 15 ≤ c → c ≤ 20 → μ1' c = μ' c) : RR n rsf μ1 μ1' :=
  ⟨h.1, g1.trans h.2.1, m0.trans h.2.2.1, fun i hi => ⟨(h.2.2.2 i hi).1, (h.2.2.2 i hi).2.1.mv (g2 i hi).1 (g2 i hi).2, (h.2.2.2 i hi).2.2.mv (by rw [gm 15 (by omega) (by omega)]) (fun c k a b _ _ => by rw [gm c (by omega) (by omega)]) (fun k _ _ => by rw [gm 20 (by omega) (by omega)])⟩⟩
theorem byte_tab : ∀ a, a < 128 → vp_nar .byte (Int8.toInt32 (Int32.toInt8 (nI a))) = nI a := by decide +kernel
theorem in12 : ∀ k, k < 4 → F_M_in (nI k) 1 2 = some (if k = 1 ∨ k = 2 then 1 else 0) := by decide +kernel
/-- a step of the TERM -/
def tst (σ0 σ : Sg) (i : Nat) : Sg := if σ0 11 i = 0 then wk 2000000000 σ else if σ0 11 i = 1 then awset σ (σ0 12 i) true else if σ0 11 i = 2 then awset σ (σ0 12 i) false else moves σ 0 (σ0 12 i)
def tf (σ0 : Sg) : Nat → Sg
  | 0 => σ0
  | i + 1 => tst σ0 (tf σ0 i) i
theorem tst_sb {σ0 σ : Sg} {i : Nat} : SB σ (tst σ0 σ i) := by
  unfold tst
  split
  · exact SB.wk
  · split
    · exact SB.awset
    · split
      · exact SB.awset
      · exact SB.moves
theorem tf_sb {σ0 : Sg} : ∀ i, SB σ0 (tf σ0 i)
  | 0 => SB.rf
  | i + 1 => (tf_sb i).tr tst_sb
theorem tf_all {σ0 : Sg} (B : BW σ0) (C : BX σ0) (hk : ∀ p, σ0 4 p ≤ 9999) (hw : σ0 0 1 ≤ 9999) : ∀ i, i ≤ 10 → BW (tf σ0 i) ∧ (∀ p, tf σ0 i 4 p ≤ 9999 + 10 * i) ∧ tf σ0 i 0 1 ≤ 9999 + i := by
  intro i
  induction i with
  | zero => exact fun _ => ⟨B, hk, hw⟩
  | succ i ih =>
    intro hi
    obtain ⟨b, k, w⟩ := ih (by omega)
    have c12 := C.2.2.2.2.2.2.1 i
    show BW (tst σ0 (tf σ0 i) i) ∧ (∀ p, tst σ0 (tf σ0 i) i 4 p ≤ 9999 + 10 * (i + 1)) ∧ tst σ0 (tf σ0 i) i 0 1 ≤ 9999 + (i + 1)
    unfold tst
    split
    · refine ⟨BW_wk b (fun p => ?_) (by omega), fun p => ?_, ?_⟩
      · have := k p
        omega
      · have := wk_4 (M := 2000000000) (k p)
        omega
      · show tf σ0 i 0 1 + 1 ≤ _
        omega
    · split
      · exact ⟨BW_awset b (by omega), fun p => by have := k p; show tf σ0 i 4 p ≤ _; omega, by show tf σ0 i 0 1 ≤ _; omega⟩
      · split
        · exact ⟨BW_awset b (by omega), fun p => by have := k p; show tf σ0 i 4 p ≤ _; omega, by show tf σ0 i 0 1 ≤ _; omega⟩
        · exact ⟨BW_moves b c12, fun p => by have := k p; show tf σ0 i 4 p ≤ _; omega, by show tf σ0 i 0 1 ≤ _; omega⟩
theorem endsXL {σ : Sg} {μ0 : Mm} (X : SX 40 σ μ0) (B : BW σ) (C : BX σ) (hk : ∀ p, σ 4 p ≤ 9999) (hw : σ 0 1 ≤ 9999) (a : Int32) (k : Mm → Option (Int32 × Mm)) : ∀ d j, j + d = σ 10 0 → ∀ n, d < n → ∀ x, x = nI j → ∀ μ, XT (tf σ j) μ0 μ → ∃ μ1, L_BT_ends_24 a k n x μ = k μ1 ∧ XT (tf σ (σ 10 0)) μ0 μ1 := by
  have h10 := C.2.1
  intro d
  induction d with
  | zero =>
    intro j hj n hn x hx μ T
    obtain ⟨N1, rfl⟩ : ∃ N, n = N + 1 := ⟨n - 1, by omega⟩
    subst hx
    have e : j = σ 10 0 := by omega
    have e50 : μ 50 2 = nI (σ 10 0) := by rw [T.2.2 50 (by omega)]; exact X.2.1.1
    rw [L_BT_ends_24, e50, ite_le (by omega) (by omega), if_pos (by omega)]
    exact ⟨μ, rfl, e ▸ T⟩
  | succ d ih =>
    intro j hj n hn x hx μ T
    obtain ⟨N1, rfl⟩ : ∃ N, n = N + 1 := ⟨n - 1, by omega⟩
    subst hx
    obtain ⟨y1, y2⟩ := X.2.1.2 j (by omega)
    have e50 : μ 50 2 = nI (σ 10 0) := by rw [T.2.2 50 (by omega)]; exact X.2.1.1
    have e51 : μ 51 j = nI (σ 11 j) := by rw [T.2.2 51 (by omega)]; exact y1
    have e52 : σ 11 j ≠ 0 → μ 52 j = nI (σ 12 j) := fun h => by rw [T.2.2 52 (by omega)]; exact y2 h
    have c11 := C.2.2.2.2.2.1 j
    have c12 := C.2.2.2.2.2.2.1 j
    have hr : rlen 50 = 10 := rfl
    obtain ⟨b1, b2, b3⟩ := tf_all B C hk hw j (by omega)
    have h4 : ∀ p, tf σ j 4 p ≤ 99999990 := fun p => by
      have := b2 p
      omega
    have st : tf σ (j + 1) = tst σ (tf σ j) j := rfl
    rw [L_BT_ends_24, e50, ite_le (by omega) (by omega), if_neg (by omega), hr, rdI_nI (by omega) (by omega), Option.bind_some, rdI_nI (by omega) (by omega), Option.bind_some, e51, jn_e]
    by_cases k0 : σ 11 j = 0
    · obtain ⟨μ1, a1, a2⟩ := T.wk b1 h4
      rw [wk_cap h4] at a2
      rw [k0, if_pos (by decide), a1, Option.bind_some]
      exact ih (j + 1) (by omega) N1 (by omega) _ (nI_1 j) μ1 (by rw [st]; unfold tst; rw [if_pos k0]; exact a2)
    rw [e52 k0]
    by_cases k1 : σ 11 j = 1
    · obtain ⟨μ1, a1, a2⟩ := T.goes b1 (p := σ 12 j) (by omega) (a := 1) (c := true) (by decide)
      rw [k1, if_neg (by decide), if_pos (by decide), a1, Option.bind_some]
      exact ih (j + 1) (by omega) N1 (by omega) _ (nI_1 j) μ1 (by rw [st]; unfold tst; rw [if_neg k0, if_pos k1]; exact a2)
    by_cases k2 : σ 11 j = 2
    · obtain ⟨μ1, a1, a2⟩ := T.goes b1 (p := σ 12 j) (by omega) (a := 0) (c := false) (by decide)
      rw [k2, if_neg (by decide), if_neg (by decide), if_pos (by decide), a1, Option.bind_some]
      exact ih (j + 1) (by omega) N1 (by omega) _ (nI_1 j) μ1 (by rw [st]; unfold tst; rw [if_neg k0, if_neg k1, if_pos k2]; exact a2)
    have k3 : σ 11 j = 3 := by omega
    obtain ⟨μ1, a1, a2⟩ := T.moves b1 (p := 0) (by omega) c12
    have a1' : F_Seat_moves 60 0 (nI (σ 12 j)) μ = some μ1 := a1
    rw [k3, if_neg (by decide), if_neg (by decide), if_neg (by decide), a1', Option.bind_some]
    exact ih (j + 1) (by omega) N1 (by omega) _ (nI_1 j) μ1 (by rw [st]; unfold tst; rw [if_neg k0, if_neg k1, if_neg k2]; exact a2)
theorem endsML {rs : Rsp} {σ : Sg} {μ0 : Mm} (K : MK rs μ0) (O : MO rs σ) (X : MX σ μ0) (B : BW σ) (C : BX σ) (hk : ∀ p, σ 4 p ≤ 9999) (hw : σ 0 1 ≤ 9999) (a : Int32) (k : Mm → Option (Int32 × Mm)) : ∀ d j, j + d = σ 10 0 → ∀ n, d < n → ∀ x, x = nI j → ∀ μ, MT σ (tf σ j) μ0 μ → ∃ μ1, L_M_ends_18 a k n x μ = k μ1 ∧ MT σ (tf σ (σ 10 0)) μ0 μ1 := by
  have h10 := C.2.1
  have e37 : ∀ {τ : Sg} {μ : Mm}, MT σ τ μ0 μ → μ 0 37 = nI (σ 10 0) := fun T => (X.my T.2.2.2).2.2.1.1
  have e39 : ∀ {τ : Sg} {μ : Mm} {j : Nat}, MT σ τ μ0 μ → j < σ 10 0 → μ 39 j = nI (σ 11 j) := fun T h => ((X.my T.2.2.2).2.2.1.2 _ h).1
  have e40 : ∀ {τ : Sg} {μ : Mm} {j : Nat}, MT σ τ μ0 μ → j < σ 10 0 → σ 11 j ≠ 0 → μ 40 j = nI (σ 12 j) := fun T h => ((X.my T.2.2.2).2.2.1.2 _ h).2
  intro d
  induction d with
  | zero =>
    intro j hj n hn x hx μ T
    obtain ⟨N1, rfl⟩ : ∃ N, n = N + 1 := ⟨n - 1, by omega⟩
    subst hx
    have e : j = σ 10 0 := by omega
    rw [L_M_ends_18, e37 T, ite_le (by omega) (by omega), if_pos (by omega)]
    exact ⟨μ, rfl, e ▸ T⟩
  | succ d ih =>
    intro j hj n hn x hx μ T
    obtain ⟨N1, rfl⟩ : ∃ N, n = N + 1 := ⟨n - 1, by omega⟩
    subst hx
    have hj' : j < σ 10 0 := by omega
    have c11 := C.2.2.2.2.2.1 j
    have c12 := C.2.2.2.2.2.2.1 j
    obtain ⟨b1, b2, b3⟩ := tf_all B C hk hw j (by omega)
    have h4 : ∀ p, tf σ j 4 p ≤ 99999990 := fun p => by
      have := b2 p
      omega
    have st : tf σ (j + 1) = tst σ (tf σ j) j := rfl
    rw [L_M_ends_18, e37 T, ite_le (by omega) (by omega), if_neg (by omega), rdI_nI (g := μ 39) (by omega) (by omega)]
    simp only [jn_e, Option.bind_some]
    rw [e39 T hj']
    by_cases k0 : σ 11 j = 0
    · obtain ⟨μ1, a1, a2⟩ := T.wk K (O.sb (tf_sb j)) b1 h4
      rw [k0, if_pos (by decide), a1]
      simp only [Option.bind_some]
      rw [rdI_nI (g := μ1 39) (by omega) (by omega)]
      simp only [Option.bind_some]
      rw [e39 a2 hj', k0, show F_M_in (nI 0) 1 2 = some 0 by decide, Option.bind_some, if_pos rfl, if_neg (by decide)]
      exact ih (j + 1) (by omega) N1 (by omega) _ (nI_1 j) μ1 (by rw [st]; unfold tst; rw [if_pos k0]; exact a2)
    by_cases k1 : σ 11 j = 1
    · obtain ⟨μ1, a1, a2⟩ := T.goes b1 (p := σ 12 j) (by omega) (a := 1) (c := true) (by decide)
      rw [k1, if_neg (by decide), rdI_nI (g := μ 39) (by omega) (by omega)]
      simp only [Option.bind_some]
      rw [e39 T hj', k1, show F_M_in (nI 1) 1 2 = some 1 by decide, Option.bind_some, if_neg one_ne, rdI_nI (g := μ 40) (by omega) (by omega), Option.bind_some, e40 T hj' k0, if_pos (by decide), a1, Option.bind_some, rdI_nI (g := μ1 39) (by omega) (by omega), Option.bind_some, e39 a2 hj', k1, if_neg (by decide)]
      exact ih (j + 1) (by omega) N1 (by omega) _ (nI_1 j) μ1 (by rw [st]; unfold tst; rw [if_neg k0, if_pos k1]; exact a2)
    by_cases k2 : σ 11 j = 2
    · obtain ⟨μ1, a1, a2⟩ := T.goes b1 (p := σ 12 j) (by omega) (a := 0) (c := false) (by decide)
      rw [k2, if_neg (by decide), rdI_nI (g := μ 39) (by omega) (by omega)]
      simp only [Option.bind_some]
      rw [e39 T hj', k2, show F_M_in (nI 2) 1 2 = some 1 by decide, Option.bind_some, if_neg one_ne, rdI_nI (g := μ 40) (by omega) (by omega), Option.bind_some, e40 T hj' k0, if_neg (by decide), a1, Option.bind_some, rdI_nI (g := μ1 39) (by omega) (by omega), Option.bind_some, e39 a2 hj', k2, if_neg (by decide)]
      exact ih (j + 1) (by omega) N1 (by omega) _ (nI_1 j) μ1 (by rw [st]; unfold tst; rw [if_neg k0, if_neg k1, if_pos k2]; exact a2)
    have k3 : σ 11 j = 3 := by omega
    obtain ⟨μ1, a1, a2⟩ := T.moves b1 (p := 0) (by omega) c12
    have a1' : F_M_moves 0 (nI (σ 12 j)) μ = some μ1 := a1
    rw [k3, if_neg (by decide), rdI_nI (g := μ 39) (by omega) (by omega)]
    simp only [Option.bind_some]
    rw [e39 T hj', k3, show F_M_in (nI 3) 1 2 = some 0 by decide, Option.bind_some, if_pos rfl, if_pos (by decide), rdI_nI (g := μ 40) (by omega) (by omega), Option.bind_some, e40 T hj' k0, a1', Option.bind_some]
    exact ih (j + 1) (by omega) N1 (by omega) _ (nI_1 j) μ1 (by rw [st]; unfold tst; rw [if_neg k0, if_neg k1, if_neg k2]; exact a2)
section CMD
variable {μ μ' : Mm} {ν ν' : Ml}
theorem st_feed (I : Inv μ ν μ' ν') (a : Int32) : ∃ r μ1 μ1', F_BT_feed a μ = some (r, μ1) ∧ F_M_feed a μ' = some (r, μ1') ∧ Inv μ1 ν μ1' ν' := by
  obtain ⟨n, rsf, L, tx, σ, τ, im, h1, h2, hs, h8, h9, h10, h11, h12⟩ := id I
  obtain ⟨⟨l1, l0⟩, l2, l3, l4⟩ := id h2
  have hn := h1.1
  unfold F_BT_feed F_M_feed F_Rooms_takes
  rw [within_in]
  rcases in_lit (lo := 0) (hi := 127) (by omega) (by omega) a 0 127 rfl rfl with ⟨s, _, hs1, rfl, e⟩ | e
  · rw [e, Option.bind_some, Option.bind_some, if_neg one_ne, if_neg one_ne, h1.2.1, rdI_nI (by omega) (by omega), Option.bind_some, l2, l3, show (100 : Int32) = nI 100 from rfl, ite_lt (by omega) (by omega), ite_eq (by omega) (by omega)]
    by_cases c : L = 100
    · rw [if_neg (by omega), if_pos c, Option.bind_some]
      exact ⟨_, _, _, rfl, rfl, I⟩
    · have e1 : up2 μ (3 + n) L (nI s) 1 2 = nI n := by rw [u_nc (by omega)]; exact h1.2.1
      have e2 : up2 μ (3 + n) L (nI s) 10 n = nI L := by rw [u_nc (by omega)]; exact l2
      have e3 : up2 μ' 14 L (nI s) 0 11 = nI L := by rw [u_nc (by omega)]; exact l3
      rw [if_pos (by omega), if_neg c, rdR_nI (by omega) (by omega)]
      simp only [Option.bind_some]
      rw [byte_tab s (by omega), wrI_nI (by omega) (by omega), Option.bind_some, e1, rdI_nI (by omega) (by omega), Option.bind_some, e2, nI_1, wrI_nI (by omega) (by omega), Option.bind_some, Option.bind_some, wrI_nI (by omega) (by omega), Option.bind_some]
      simp only [lt_e]
      rw [e3, nI_1, u_eq rfl rfl]
      refine ⟨_, _, _, rfl, rfl, n, rsf, L + 1, (fun j => if j = L then s else tx j), σ, τ, im, h1.g ?_ (fun i hi => ⟨?_, ?_⟩) ?_ (fun c h1 h2 => ?_), ⟨⟨by omega, fun r h1 h2 => by rw [u_nj (by omega), u_nc (by omega)]; exact l0 r h1 h2⟩, u_eq rfl rfl, u_eq rfl rfl, fun j hj => ?_⟩, now_same hs (fun c h1 h2 => ?_) (fun c hc => ?_) (fun j hj => ?_), h8.g ?_ (fun c h1 h2 => ?_) (fun c h1 h2 => ?_) (fun j h1 h2 => ?_), ?_, h10.keep ?_ ?_ ?_ ?_, fun i hi => ?_, ?_⟩
      · rw [u_nc (by omega), u_nc (by omega)]
      · rw [u_cf (by omega), u_cf (by omega)]
      · rw [u_nj (by omega), u_nc (by omega)]
      · rw [u_nj (by omega), u_nc (by omega)]
      · rw [u_cf (by omega), u_cf (by omega)]
      · show (if j = L then s else tx j) < 128 ∧ _ = nI (if j = L then s else tx j) ∧ _ = nI (if j = L then s else tx j)
        rw [u_nc (c := 3 + n) (b := 10) (by omega), u_nc (c := 14) (b := 0) (by omega)]
        by_cases ej : j = L
        · rw [if_pos ej, u_eq rfl ej, u_eq rfl ej]
          exact ⟨by omega, rfl, rfl⟩
        · rw [if_neg ej, u_nj ej, u_nj ej]
          exact l4 j (by omega)
      · rw [u_cf (by omega), u_cf (by omega)]
      · rw [u_cf (by omega), u_cf (by omega)]
      · rw [u_nj (by omega), u_nc (by omega)]
      · rw [u_nc (by omega), u_nc (by omega)]
      · rw [u_cf (by omega), u_cf (by omega)]
      · rw [u_cf (by omega), u_cf (by omega)]
      · rw [u_nj (by omega), u_nc (by omega)]
      · unfold TR at h9 ⊢
        rw [u_cf (by omega), u_cf (by omega), u_nj (by omega), u_nc (by omega), u_cf (by omega), u_cf (by omega), u_cf (by omega), u_cf (by omega)]
        exact h9
      · rw [u_cf (by omega), u_cf (by omega)]
      · rw [u_cf (by omega), u_cf (by omega)]
      · rw [u_cf (by omega), u_cf (by omega)]
      · rw [u_cf (by omega), u_cf (by omega)]
      · rw [u_cf (by omega), u_cf (by omega)]
        exact h11 i hi
      · rw [u_nj (by omega), u_nc (by omega)]
        exact h12
  · rw [e, Option.bind_some, Option.bind_some, if_pos rfl, if_pos rfl]
    exact ⟨_, _, _, rfl, rfl, I⟩
theorem st_ends (I : Inv μ ν μ' ν') (a : Int32) : ∃ r μ1 μ1', F_BT_ends a μ = some (r, μ1) ∧ F_M_ends a μ' = some (r, μ1') ∧ Inv μ1 ν μ1' ν' := by
  obtain ⟨n, rsf, L, tx, σ, τ, im, h1, h2, hs, h8, h9, h10, h11, h12⟩ := id I
  obtain ⟨h3, h4, h5, h6, h7⟩ := id hs
  have K : MK (rsH rsf (σ 16 0)) μ' := Inv_MK h1 h7.2.2.2.1 h6.1
  have B := h7.1
  have C := h7.2.1
  have hk := h7.2.2.2.2.1
  have hw := h7.2.2.2.2.2.2
  have c10 := C.2.1
  unfold F_BT_ends F_M_ends
  rw [within_in]
  rcases in_lit (lo := 0) (hi := 1) (by omega) (by omega) a 0 1 rfl rfl with ⟨s, _, hs1, rfl, e⟩ | e
  · obtain ⟨μ1, x1, x2⟩ := XT.start h3 h4 C (μ := μ) Off.rf
    obtain ⟨μ2, y1, y2⟩ := endsXL h4 B C hk hw (nI s) (fun (μ23 : Mm) => (if nI s = 0 then (F_Seat_noise 60 0 μ23).bind fun v26 => some (v26, μ23) else (F_Seat_knowsOfAll 60 μ23).bind fun v24 => some (v24, μ23))) (σ 10 0) 0 (by omega) fu (fu_gt (by omega)) 0 rfl μ1 x2
    obtain ⟨μ3, s1, s2⟩ := MT.save h5
    obtain ⟨μ4, z1, z2⟩ := endsML K h7.2.2.1 h6 B C hk hw (nI s) (fun (μ30 : Mm) => jn (α := Int32 × Mm) (fun K40 => (if nI s = 0 then (F_M_noise μ30).bind fun p_ => match p_ with | (v33, μ34) => K40 (v33, μ34) else (F_M_allKnow μ30).bind fun v31 => K40 (v31, μ30))) (fun (p_ : Int32 × Mm) => match p_ with | (j36, μ37) => (F_M_putBack μ37).bind fun μ38 => some (j36, μ38))) (σ 10 0) 0 (by omega) fu (fu_gt (by omega)) 0 rfl μ3 s2
    obtain ⟨b1, b2, b3⟩ := tf_all B C hk hw (σ 10 0) (by omega)
    rw [e, Option.bind_some, Option.bind_some, if_neg one_ne, if_neg one_ne, x1, Option.bind_some, s1, Option.bind_some, y1, z1, jn_e]
    by_cases c : nI s = 0
    · obtain ⟨μ5, n1, n2⟩ := z2.noise K (h7.2.2.1.sb (tf_sb _)) b1
      obtain ⟨μ6, p1, p2, p3, p4⟩ := n2.back (tf_sb _)
      rw [if_pos c, if_pos c, y2.noise b1, n1, Option.bind_some, Option.bind_some]
      simp only []
      rw [p1, Option.bind_some]
      exact ⟨_, _, _, rfl, rfl, Inv.ask h1 h2 hs h8 h9 h10 h11 h12 y2.2.2 p4 p2 p3⟩
    · obtain ⟨μ6, p1, p2, p3, p4⟩ := z2.back (tf_sb _)
      rw [if_neg c, if_neg c, x_kns y2.1 b1, m_kns z2.1 b1, Option.bind_some, Option.bind_some]
      simp only []
      rw [p1, Option.bind_some]
      exact ⟨_, _, _, rfl, rfl, Inv.ask h1 h2 hs h8 h9 h10 h11 h12 y2.2.2 p4 p2 p3⟩
  · rw [e, Option.bind_some, Option.bind_some, if_pos rfl, if_pos rfl]
    exact ⟨_, _, _, rfl, rfl, I⟩
end CMD
