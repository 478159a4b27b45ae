/-! tapes -/
theorem l_eq {ν : Ml} {b k c j : Nat} {x : Int64} (h1 : c = b) (h2 : j = k) : upL ν b k x c j = x := by
  subst h1; subst h2
  rw [upL_eq]
  exact pk_uLs
theorem l_nc {ν : Ml} {b k c j : Nat} {x : Int64} (h : c ≠ b) : upL ν b k x c j = ν c j := by
  rw [upL_ne c h]
theorem l_nj {ν : Ml} {b k c j : Nat} {x : Int64} (h : j ≠ k) : upL ν b k x c j = ν c j := by
  by_cases hc : c = b
  · subst hc
    rw [upL_eq]
    exact pk_uLn h
  · rw [upL_ne c hc]
theorem sub_I {a b : Nat} (ha : a < 2147483648) (hb : b < 2147483648) : (nI a - nI b).toInt = (a : Int) - b := by
  rw [Int32.toInt_sub, nI_toInt (by omega), nI_toInt (by omega)]
  exact Int.bmod_eq_of_le (by omega) (by omega)
theorem i60 {t i : Nat} : (60 : Int32) * nI t + nI i = nI (60 * t + i) := by
  rw [q60, pk_mul, nI_add]
theorem i603 {t i s : Nat} : (60 : Int32) * nI t + nI i + nI s = nI (60 * t + (i + s)) := by
  rw [i60, nI_add, Nat.add_assoc]
theorem sort_c (a : Int32) : (a = -1 ∧ F_M_in a (-1) 4 = some 1) ∨ (∃ k, k ≤ 4 ∧ a = nI k ∧ F_M_in a (-1) 4 = some 1) ∨ F_M_in a (-1) 4 = some 0 := by
  by_cases h : a = -1
  · left
    subst h
    exact ⟨rfl, rfl⟩
  · right
    unfold F_M_in
    rcases i32_cases a with q | ⟨k, hk, rfl⟩
    · right
      have hl : a < -1 := by
        rw [Int32.lt_iff_toInt_lt] at q ⊢
        have e0 : (0 : Int32).toInt = 0 := by decide
        have e1 : (-1 : Int32).toInt = -1 := by decide
        have : a.toInt ≠ -1 := fun z => h (Int32.toInt_inj.mp (z.trans e1.symm))
        omega
      rw [if_pos hl]
    · have hn : ¬ nI k < -1 := by
        rw [Int32.lt_iff_toInt_lt, nI_toInt (by omega), show (-1 : Int32).toInt = -1 by decide]
        omega
      rw [if_neg hn, q4, ite_lt (by omega) (by omega)]
      by_cases c : 4 < k
      · right
        rw [if_pos c]
      · left
        exact ⟨k, by omega, rfl, by rw [if_neg c]⟩
/-- a place below the last -/
theorem idx_c {s : Nat} (hs : s ≤ 60) (a : Int32) : (∃ i, i < s ∧ a = nI i ∧ F_M_in a 0 (nI s - 1) = some 1) ∨ F_M_in a 0 (nI s - 1) = some 0 := by
  unfold F_M_in
  rcases i32_cases a with h | ⟨k, hk, rfl⟩
  · right
    rw [if_pos h]
  · rw [if_neg (nn_not_neg hk)]
    have hs' := pk_sub_toInt (a := s) (b := 1) (by omega) (by omega)
    have h1 : (nI s - 1 < nI k) ↔ s ≤ k := by
      rw [Int32.lt_iff_toInt_lt, show (nI s - 1) = nI s - nI 1 from rfl, hs', nI_toInt (by omega)]
      omega
    by_cases c : s ≤ k
    · right
      rw [if_pos (h1.mpr c)]
    · left
      exact ⟨k, by omega, rfl, by rw [if_neg (fun q => c (h1.mp q))]⟩
theorem asItem_c {k : Nat} (hk : k ≤ 4) (v : Int64) : ∃ w, F_BT_asItem (nI k) v = some w ∧ F_M_narrow (nI k) v = some w := by
  rcases (show k = 0 ∨ k = 1 ∨ k = 2 ∨ k = 3 ∨ k = 4 by omega) with rfl | rfl | rfl | rfl | rfl
  · exact ⟨_, rfl, rfl⟩
  · exact ⟨_, rfl, rfl⟩
  · exact ⟨_, rfl, rfl⟩
  · exact ⟨_, rfl, rfl⟩
  · by_cases c : lg_cmp v 0 = 0
    · exact ⟨0, if_pos c, if_pos c⟩
    · exact ⟨1, if_neg c, if_neg c⟩
theorem tpXL {μ : Mm} {t s : Nat} (ht : t < 6) (hs : s ≤ 60) (h22 : μ 22 t = nI s) (k : Ml → Option (Int32 × Mm × Ml)) : ∀ d j, j + d = s → ∀ n, d < n → ∀ x, x = nI j → ∀ ν : Ml, ∃ ν1, L_BT_tape_73 (nI t) μ k n x ν = k ν1 ∧ (∀ i, j ≤ i → i < s → ν1 (15 + t) i = 0) ∧ (∀ i, i < j → ν1 (15 + t) i = ν (15 + t) i) ∧ ∀ c, c ≠ 15 + t → ν1 c = ν c := by
  intro d
  induction d with
  | zero =>
    intro j hj n hn x hx ν
    obtain ⟨N1, rfl⟩ : ∃ N, n = N + 1 := ⟨n - 1, by omega⟩
    subst hx
    rw [L_BT_tape_73, rdI_nI (by omega) (by omega), Option.bind_some, h22, ite_le (by omega) (by omega), if_pos (by omega)]
    exact ⟨ν, rfl, fun i h1 h2 => by omega, fun _ _ => rfl, fun _ _ => rfl⟩
  | succ d ih =>
    intro j hj n hn x hx ν
    obtain ⟨N1, rfl⟩ : ∃ N, n = N + 1 := ⟨n - 1, by omega⟩
    subst hx
    obtain ⟨ν1, a1, a2, a3, a4⟩ := ih (j + 1) (by omega) N1 (by omega) _ (nI_1 j) (upL ν (15 + t) j 0)
    rw [L_BT_tape_73, rdI_nI (by omega) (by omega), Option.bind_some, h22, ite_le (by omega) (by omega), if_neg (by omega), rdR_nI (by omega) (by omega), Option.bind_some, wrL_nI (by omega) (by omega), Option.bind_some]
    refine ⟨ν1, a1, fun i h1 h2 => ?_, fun i h => ?_, fun c h => ?_⟩
    · by_cases e : i = j
      · rw [e, a3 j (by omega), l_eq rfl rfl]
      · exact a2 i (by omega) h2
    · rw [a3 i (by omega), l_nj (by omega)]
    · rw [a4 c h, upL_ne c h]
theorem tpML {μ : Mm} {t : Nat} (ht : t < 6) (k : Ml → Option (Int32 × Mm × Ml)) : ∀ d j, j + d = 60 → ∀ n, d < n → ∀ x, x = nI j → ∀ ν : Ml, ∃ ν1, L_M_tape_69 (nI t) μ k n x ν = k ν1 ∧ (∀ i, j ≤ i → i < 60 → ν1 67 (60 * t + i) = 0) ∧ ∀ i, (i < 60 * t + j ∨ 60 * t + 60 ≤ i) → ν1 67 i = ν 67 i := by
  intro d
  induction d with
  | zero =>
    intro j hj n hn x hx ν
    obtain ⟨N1, rfl⟩ : ∃ N, n = N + 1 := ⟨n - 1, by omega⟩
    subst hx
    rw [L_M_tape_69, q60, ite_le (by omega) (by omega), if_pos (by omega)]
    exact ⟨ν, rfl, fun i h1 h2 => by omega, fun _ _ => rfl⟩
  | succ d ih =>
    intro j hj n hn x hx ν
    obtain ⟨N1, rfl⟩ : ∃ N, n = N + 1 := ⟨n - 1, by omega⟩
    subst hx
    obtain ⟨ν1, a1, a2, a3⟩ := ih (j + 1) (by omega) N1 (by omega) _ (nI_1 j) (upL ν 67 (60 * t + j) 0)
    rw [L_M_tape_69, i60, q60, ite_le (by omega) (by omega), if_neg (by omega), wrL_nI (by omega) (by omega), Option.bind_some]
    refine ⟨ν1, a1, fun i h1 h2 => ?_, fun i h => ?_⟩
    · by_cases e : i = j
      · rw [e, a3 _ (by omega), l_eq rfl rfl]
      · exact a2 i (by omega) h2
    · rw [a3 i (by omega), l_nj (by omega)]
theorem shA {t i s : Nat} (ht : t < 6) (μ : Mm) {N : Nat} (hN : i + N ≤ 60) (a3 a4 : Int32) (k : Ml → Option (Int32 × Ml)) : ∀ d j, j + d = N → ∀ n, d < n → ∀ x, x = nI j → ∀ ν : Ml, ∃ ν1, L_M_shift_104 (nI t) (nI i) a3 a4 (nI N) μ k n x ν = k ν1 ∧ (∀ m, j ≤ m → m < N → ν1 68 m = ν 67 (60 * t + (i + m))) ∧ (∀ m, m < j → ν1 68 m = ν 68 m) ∧ ∀ c, c ≠ 68 → ν1 c = ν c := by
  intro d
  induction d with
  | zero =>
    intro j hj n hn x hx ν
    obtain ⟨N1, rfl⟩ : ∃ N, n = N + 1 := ⟨n - 1, by omega⟩
    subst hx
    rw [L_M_shift_104, ite_le (by omega) (by omega), if_pos (by omega)]
    exact ⟨ν, rfl, fun i h1 h2 => by omega, fun _ _ => rfl, fun _ _ => rfl⟩
  | succ d ih =>
    intro j hj n hn x hx ν
    obtain ⟨N1, rfl⟩ : ∃ N, n = N + 1 := ⟨n - 1, by omega⟩
    subst hx
    obtain ⟨ν1, a1, a2, a3, a4⟩ := ih (j + 1) (by omega) N1 (by omega) _ (nI_1 j) (upL ν 68 j (ν 67 (60 * t + (i + j))))
    rw [L_M_shift_104, i603, ite_le (by omega) (by omega), if_neg (by omega), rdL_nI (by omega) (by omega), Option.bind_some, wrL_nI (by omega) (by omega), Option.bind_some]
    refine ⟨ν1, a1, fun m h1 h2 => ?_, fun m h => ?_, fun c h => ?_⟩
    · by_cases e : m = j
      · rw [e, a3 j (by omega), l_eq rfl rfl]
      · rw [a2 m (by omega) h2, l_nc (by omega)]
    · rw [a3 m (by omega), l_nj (by omega)]
    · rw [a4 c h, upL_ne c h]
theorem shB {t i : Nat} (ht : t < 6) (μ : Mm) {N : Nat} (hN : i + N ≤ 60) (k : Ml → Option (Int32 × Ml)) : ∀ d j, j + d = N → ∀ n, d < n → ∀ x, x = nI j → ∀ ν : Ml, ∃ ν1, L_M_shift_141 (nI t) (nI i) (nI N) μ k n x ν = k ν1 ∧ (∀ m, j ≤ m → m < N → ν1 67 (60 * t + (i + m)) = ν 68 m) ∧ (∀ m, (m < 60 * t + (i + j) ∨ 60 * t + (i + N) ≤ m) → ν1 67 m = ν 67 m) := by
  intro d
  induction d with
  | zero =>
    intro j hj n hn x hx ν
    obtain ⟨N1, rfl⟩ : ∃ N, n = N + 1 := ⟨n - 1, by omega⟩
    subst hx
    rw [L_M_shift_141, ite_le (by omega) (by omega), if_pos (by omega)]
    exact ⟨ν, rfl, fun i h1 h2 => by omega, fun _ _ => rfl⟩
  | succ d ih =>
    intro j hj n hn x hx ν
    obtain ⟨N1, rfl⟩ : ∃ N, n = N + 1 := ⟨n - 1, by omega⟩
    subst hx
    obtain ⟨ν1, a1, a2, a3⟩ := ih (j + 1) (by omega) N1 (by omega) _ (nI_1 j) (upL ν 67 (60 * t + (i + j)) (ν 68 j))
    rw [L_M_shift_141, i603, ite_le (by omega) (by omega), if_neg (by omega), rdL_nI (by omega) (by omega), Option.bind_some, wrL_nI (by omega) (by omega), Option.bind_some]
    refine ⟨ν1, a1, fun m h1 h2 => ?_, fun m h => ?_⟩
    · by_cases e : m = j
      · rw [e, a3 _ (by omega), l_eq rfl rfl]
      · rw [a2 m (by omega) h2, l_nc (by omega)]
    · rw [a3 m (by omega), l_nj (by omega)]
def cpW (ν : Ml) (b0 b1 i j n : Nat) : Ml := fun c => if c = b1 then va_cpy (ν b0) (ν b1) i j n else ν c
theorem cpL_nI {ν : Ml} {b0 n0 b1 n1 i j n : Nat} (h0 : i + n ≤ n0) (h1 : j + n ≤ n1) (g0 : n0 ≤ 60) (g1 : n1 ≤ 60) : cpL ν b0 n0 (nI i) b1 n1 (nI j) (nI n) = some (cpW ν b0 b1 i j n) := by
  unfold cpL
  rw [nI_clamp (by omega), nI_clamp (by omega), nI_clamp (by omega), if_neg (by
    rintro (q | q | q | q | q)
    · exact nI_pos (by omega) q
    · exact nI_pos (by omega) q
    · exact nI_pos (by omega) q
    · omega
    · omega)]
  rfl
theorem cpW_in {ν : Ml} {b0 b1 i j n k : Nat} (h1 : j ≤ k) (h2 : k < j + n) : cpW ν b0 b1 i j n b1 k = ν b0 (i + (k - j)) := by
  unfold cpW va_cpy
  rw [if_pos rfl, if_pos ⟨h1, h2⟩]
theorem cpW_out {ν : Ml} {b0 b1 i j n c k : Nat} (h : c ≠ b1 ∨ k < j ∨ j + n ≤ k) : cpW ν b0 b1 i j n c k = ν c k := by
  unfold cpW va_cpy
  by_cases e : c = b1
  · rw [if_pos e, if_neg (by omega), e]
  · rw [if_neg e]
section CMD
variable {μ μ' : Mm} {ν ν' : Ml}
/-- only tapes change -/
theorem Inv.tp (I : Inv μ ν μ' ν') {μ1 μ1' : Mm} {ν1 ν1' : Ml} (gx : ∀ c, c ≠ 21 → c ≠ 22 → μ1 c = μ c) (gm : ∀ c, c ≠ 65 → c ≠ 66 → μ1' c = μ' c) (T : TP μ1 ν1 μ1' ν1') : Inv μ1 ν1 μ1' ν1' := by
  obtain ⟨n, rsf, L, tx, σ, τ, im, h1, h2, hs, h8, h9, h10, h11, h12⟩ := id I
  refine Inv.g h1 h2 h8 h11 h12 (fun c hc => gx c (by omega) (by omega)) (fun c _ _ => gx c (by omega) (by omega)) (fun c hc => gm c (by omega) (by omega)) (fun j hj => by rw [gm 0 (by omega) (by omega)]) (now_same hs (fun c _ _ => gx c (by omega) (by omega)) (fun c hc => gm c (by omega) (by omega)) (fun j _ => by rw [gm 0 (by omega) (by omega)])) ?_ T
  unfold TR at h9 ⊢
  rw [gx 11 (by omega) (by omega), gx 12 (by omega) (by omega), gm 0 (by omega) (by omega), gm 64 (by omega) (by omega)]
  exact h9
theorem st_tape (I : Inv μ ν μ' ν') (a b c : Int32) : ∃ r μ1 ν1 μ1' ν1', F_BT_tape a b c μ ν = some (r, μ1, ν1) ∧ F_M_tape a b c μ' ν' = some (r, μ1', ν1') ∧ Inv μ1 ν1 μ1' ν1' := by
  have T : TP μ ν μ' ν' := by
    obtain ⟨n, rsf, L, tx, σ, τ, im, h1, h2, hs, h8, h9, h10, h11, h12⟩ := id I
    exact h10
  -- the tape is made new
  have mk : ∀ (t s : Nat) (w : Int32), t < 6 → s ≤ 60 → (w = -1 ∨ ∃ k, k ≤ 4 ∧ w = nI k) → (w = -1 → s = 0) → ∃ ν1 ν1', L_BT_tape_73 (nI t) (up2 (up2 μ 21 t w) 22 t (nI s)) (fun (ν14 : Ml) => some (1, (up2 (up2 μ 21 t w) 22 t (nI s)), ν14)) fu 0 ν = some (1, (up2 (up2 μ 21 t w) 22 t (nI s)), ν1) ∧ L_M_tape_69 (nI t) (up2 (up2 μ' 65 t w) 66 t (nI s)) (fun (ν12 : Ml) => some (1, (up2 (up2 μ' 65 t w) 66 t (nI s)), ν12)) fu 0 ν' = some (1, (up2 (up2 μ' 65 t w) 66 t (nI s)), ν1') ∧ Inv (up2 (up2 μ 21 t w) 22 t (nI s)) ν1 (up2 (up2 μ' 65 t w) 66 t (nI s)) ν1' := by
    intro t s w ht hs hw hw0
    obtain ⟨ν1, a1, a2, a3, a4⟩ := tpXL (μ := up2 (up2 μ 21 t w) 22 t (nI s)) ht hs (u_eq rfl rfl) (fun (ν14 : Ml) => some (1, (up2 (up2 μ 21 t w) 22 t (nI s)), ν14)) s 0 (by omega) fu (fu_gt (by omega)) 0 rfl ν
    obtain ⟨ν1', b1, b2, b3⟩ := tpML (μ := up2 (up2 μ' 65 t w) 66 t (nI s)) ht (fun (ν12 : Ml) => some (1, (up2 (up2 μ' 65 t w) 66 t (nI s)), ν12)) 60 0 (by omega) fu (fu_gt (by omega)) 0 rfl ν'
    refine ⟨ν1, ν1', a1, b1, I.tp (fun c h1 h2 => by rw [u_cf h2, u_cf h1]) (fun c h1 h2 => by rw [u_cf h2, u_cf h1]) (fun t' ht' => ?_)⟩
    by_cases e : t' = t
    · subst e
      refine ⟨?_, ?_, s, hs, u_eq rfl rfl, u_eq rfl rfl, fun h => hw0 ?_, fun j hj => ?_⟩
      · simp (disch := omega) only [u_nc]
        rw [u_eq rfl rfl, u_eq rfl rfl]
      · rw [u_nc (by omega), u_eq rfl rfl]
        exact hw
      · rw [u_nc (by omega), u_eq rfl rfl] at h
        exact h
      · rw [b2 j (by omega) (by omega), a2 j (by omega) hj]
    · obtain ⟨t1, t2, s', hs', s1, s2, s3, s4⟩ := T t' ht'
      rw [u_nj e, u_nj e, u_nj e, u_nj e, u_nj e, u_nj e, u_nj e, u_nj e]
      exact ⟨t1, t2, s', hs', s1, s2, s3, fun j hj => by rw [b3 _ (by omega), a4 _ (by omega)]; exact s4 j hj⟩
  unfold F_BT_tape F_M_tape
  rcases tape_c a with ⟨t, ht, rfl, e1, e2⟩ | ⟨e1, e2⟩
  · rw [e1, e2, Option.bind_some, Option.bind_some, if_neg one_ne, if_neg one_ne, within_in]
    simp only [jn_e]
    rcases sort_c b with ⟨rfl, e⟩ | ⟨k, hk, rfl, e⟩ | e
    · obtain ⟨ν1, ν1', a1, a2, a3⟩ := mk t 0 (-1) (by omega) (by omega) (Or.inl rfl) (fun _ => rfl)
      rw [e, Option.bind_some, Option.bind_some, if_neg one_ne, if_neg one_ne, if_pos rfl, if_pos rfl, if_pos (by decide), if_pos (by decide), wrI_nI (by omega) (by omega), wrI_nI (by omega) (by omega), Option.bind_some, Option.bind_some, if_pos rfl, if_neg (by decide), wrI_nI (by omega) (by omega), wrI_nI (by omega) (by omega), Option.bind_some, Option.bind_some]
      exact ⟨_, _, _, _, _, a1, a2, a3⟩
    · have hn1 : ¬ nI k = -1 := nI_m1 (by omega)
      have hn2 : ¬ nI k < 0 := nn_not_neg (by omega)
      have hp : (0 : Int32) ≤ nI k := nI_pos' (by omega)
      rw [e, Option.bind_some, Option.bind_some, if_neg one_ne, if_neg one_ne, if_neg hn1, if_neg hn1, if_neg hn2, if_neg hn2]
      by_cases c60 : c ≤ 60
      · rw [if_pos c60, if_pos c60]
        by_cases c0 : 0 ≤ c
        · obtain ⟨s, hs, rfl⟩ : ∃ s, s ≤ 60 ∧ c = nI s := by
            rcases i32_cases c with h | ⟨s, hs, rfl⟩
            · rw [Int32.le_iff_toInt_le] at c0
              rw [Int32.lt_iff_toInt_lt] at h
              omega
            · exact ⟨s, (nI_leI (a := s) (b := 60) (by omega) (by omega)).mp c60, rfl⟩
          obtain ⟨ν1, ν1', a1, a2, a3⟩ := mk t s (nI k) (by omega) hs (Or.inr ⟨k, hk, rfl⟩) (fun h => absurd h hn1)
          rw [if_pos c0, if_pos c0, wrI_nI (by omega) (by omega), wrI_nI (by omega) (by omega), Option.bind_some, Option.bind_some, if_neg hn1, if_pos hp, wrI_nI (by omega) (by omega), wrI_nI (by omega) (by omega), Option.bind_some, Option.bind_some]
          exact ⟨_, _, _, _, _, a1, a2, a3⟩
        · rw [if_neg c0, if_neg c0]
          exact ⟨_, _, _, _, _, rfl, rfl, I⟩
      · rw [if_neg c60, if_neg c60]
        exact ⟨_, _, _, _, _, rfl, rfl, I⟩
    · rw [e, Option.bind_some, Option.bind_some, if_pos rfl, if_pos rfl]
      exact ⟨_, _, _, _, _, rfl, rfl, I⟩
  · rw [e1, e2, Option.bind_some, Option.bind_some, if_pos rfl, if_pos rfl]
    exact ⟨_, _, _, _, _, rfl, rfl, I⟩
theorem st_item (I : Inv μ ν μ' ν') (a b : Int32) (v : Int64) : ∃ r ν1 ν1', F_BT_item a b v μ ν = some (r, ν1) ∧ F_M_item a b v μ' ν' = some (r, ν1') ∧ Inv μ ν1 μ' ν1' := by
  have T : TP μ ν μ' ν' := by
    obtain ⟨n, rsf, L, tx, σ, τ, im, h1, h2, hs, h8, h9, h10, h11, h12⟩ := id I
    exact h10
  unfold F_BT_item F_M_item
  rcases tape_c a with ⟨t, ht, rfl, e1, e2⟩ | ⟨e1, e2⟩
  · obtain ⟨t1, t2, s, hs, s1, s2, s3, s4⟩ := T t (by omega)
    rw [e1, e2, Option.bind_some, Option.bind_some, if_neg one_ne, if_neg one_ne, rdI_nI (g := μ 21) (by omega) (by omega), rdI_nI (g := μ' 65) (by omega) (by omega), Option.bind_some, Option.bind_some, t1]
    rcases t2 with e | ⟨k, hk, e⟩
    · rw [e, if_pos rfl, if_neg (by decide)]
      exact ⟨_, _, _, rfl, rfl, I⟩
    · rw [e, if_neg (nI_m1 (by omega)), if_pos (nI_pos' (by omega)), rdI_nI (g := μ 22) (by omega) (by omega), rdI_nI (g := μ' 66) (by omega) (by omega), Option.bind_some, Option.bind_some, s1, s2, within_in]
      rcases idx_c hs b with ⟨i, hi, rfl, e5⟩ | e5
      · obtain ⟨w, w1, w2⟩ := asItem_c hk v
        rw [e5, Option.bind_some, Option.bind_some, if_neg one_ne, if_neg one_ne, rdR_nI (by omega) (by omega)]
        simp only [Option.bind_some]
        rw [w1, w2]
        simp only [Option.bind_some]
        rw [i60, wrL_nI (by omega) (by omega), wrL_nI (by omega) (by omega), Option.bind_some, Option.bind_some]
        refine ⟨_, _, _, rfl, rfl, I.tp (fun _ _ _ => rfl) (fun _ _ _ => rfl) (fun t' ht' => ?_)⟩
        obtain ⟨t1', t2', s', hs', s1', s2', s3', s4'⟩ := T t' ht'
        refine ⟨t1', t2', s', hs', s1', s2', s3', fun j hj => ?_⟩
        by_cases et : t' = t
        · subst et
          by_cases ej : j = i
          · rw [ej, l_eq rfl rfl, l_eq rfl rfl]
          · rw [l_nj (by omega), l_nj ej]
            exact s4' j hj
        · rw [l_nj (by omega), l_nc (by omega)]
          exact s4' j hj
      · rw [e5, Option.bind_some, Option.bind_some, if_pos rfl, if_pos rfl]
        exact ⟨_, _, _, rfl, rfl, I⟩
  · rw [e1, e2, Option.bind_some, Option.bind_some, if_pos rfl, if_pos rfl]
    exact ⟨_, _, _, rfl, rfl, I⟩
theorem st_read (I : Inv μ ν μ' ν') (a b : Int32) : ∃ r, F_BT_read a b μ ν = some r ∧ F_M_read a b μ' ν' = some r := by
  have T : TP μ ν μ' ν' := by
    obtain ⟨n, rsf, L, tx, σ, τ, im, h1, h2, hs, h8, h9, h10, h11, h12⟩ := id I
    exact h10
  unfold F_BT_read F_M_read
  simp only [jn_e]
  rcases tape_c a with ⟨t, ht, rfl, e1, e2⟩ | ⟨e1, e2⟩
  · obtain ⟨t1, t2, s, hs, s1, s2, s3, s4⟩ := T t (by omega)
    rw [e1, e2, Option.bind_some, Option.bind_some, if_neg one_ne, if_neg one_ne, rdI_nI (by omega) (by omega), rdI_nI (by omega) (by omega), Option.bind_some, Option.bind_some, t1, s1, within_in]
    rcases t2 with e | ⟨k, hk, e⟩
    · have s0 := s3 e
      subst s0
      rw [e, if_pos (by decide)]
      rcases idx_c hs b with ⟨i, hi, rfl, e5⟩ | e5
      · omega
      · rw [e5, Option.bind_some, if_pos rfl]
        exact ⟨_, rfl, rfl⟩
    · rw [e, if_neg (nn_not_neg (by omega)), rdI_nI (by omega) (by omega), Option.bind_some, s2]
      rcases idx_c hs b with ⟨i, hi, rfl, e5⟩ | e5
      · rw [e5, Option.bind_some, Option.bind_some, if_neg one_ne, if_neg one_ne, rdR_nI (by omega) (by omega), Option.bind_some, rdL_nI (by omega) (by omega), Option.bind_some, i60, rdL_nI (by omega) (by omega), Option.bind_some, s4 i hi]
        exact ⟨_, rfl, rfl⟩
      · rw [e5, Option.bind_some, Option.bind_some, if_pos rfl, if_pos rfl]
        exact ⟨_, rfl, rfl⟩
  · rw [e1, e2, Option.bind_some, Option.bind_some, if_pos rfl, if_pos rfl]
    exact ⟨_, rfl, rfl⟩
theorem range_c {t s : Nat} (ht : t < 6) (hs : s ≤ 60) (h : μ 22 t = nI s) {i n : Nat} (hi : i < 2147483648) (hn : n < 2147483648) : F_BT_isRange (nI t) (nI i) (nI n) μ = some (if i + n ≤ s then 1 else 0) := by
  unfold F_BT_isRange
  rw [if_neg (nn_not_neg hn), if_neg (nn_not_neg hi), rdI_nI (by omega) (by omega), Option.bind_some, Option.bind_some, h, ite_lt (by omega) (by omega)]
  by_cases c : s < i
  · rw [if_pos c, if_neg (by omega)]
  · have hx : (nI s - nI i < nI n) ↔ s < i + n := by
      have hq := sub_I (a := s) (b := i) (by omega) (by omega)
      rw [Int32.lt_iff_toInt_lt, hq, nI_toInt (by omega)]
      omega
    rw [if_neg c]
    by_cases c2 : i + n ≤ s
    · rw [if_neg (fun q => by have := hx.mp q; omega), if_pos c2]
    · rw [if_pos (hx.mpr (by omega)), if_neg c2]
theorem range_some {t s : Nat} (ht : t < 6) (h : μ 22 t = nI s) (i n : Int32) : ∃ v, F_BT_isRange (nI t) i n μ = some v := by
  unfold F_BT_isRange
  rw [rdI_nI (by omega) (by omega), Option.bind_some, Option.bind_some]
  repeat' split
  all_goals exact ⟨_, rfl⟩
theorem range_neg {t s : Nat} (ht : t < 6) (h : μ 22 t = nI s) {i n : Int32} (hb : i < 0 ∨ n < 0) : F_BT_isRange (nI t) i n μ = some 0 := by
  unfold F_BT_isRange
  rcases hb with hb | hb
  · rw [if_pos hb, ite_self]
  · rw [if_pos hb]
theorem st_shift (I : Inv μ ν μ' ν') (a b c d e : Int32) : ∃ r ν1 ν1', F_BT_shift a b c d e μ ν = some (r, ν1) ∧ F_M_shift a b c d e μ' ν' = some (r, ν1') ∧ Inv μ ν1 μ' ν1' := by
  have T : TP μ ν μ' ν' := by
    obtain ⟨n, rsf, L, tx, σ, τ, im, h1, h2, hs, h8, h9, h10, h11, h12⟩ := id I
    exact h10
  unfold F_BT_shift F_M_shift
  rcases tape_c a with ⟨t, ht, rfl, e1, e2⟩ | ⟨e1, e2⟩
  · rcases tape_c c with ⟨u, hu, rfl, f1, f2⟩ | ⟨f1, f2⟩
    · obtain ⟨t1, t2, s, hs, s1, s2, s3, s4⟩ := T t (by omega)
      obtain ⟨y1, y2, z, hz, z1, z2, z3, z4⟩ := T u (by omega)
      rw [e1, e2, f1, f2, Option.bind_some, Option.bind_some, Option.bind_some, Option.bind_some, if_neg one_ne, if_neg one_ne, if_neg one_ne, if_neg one_ne, rdI_nI (g := μ 21) (j := t) (by omega) (by omega), rdI_nI (g := μ' 65) (j := t) (by omega) (by omega), rdI_nI (g := μ 21) (j := u) (by omega) (by omega), rdI_nI (g := μ' 65) (j := u) (by omega) (by omega), rdI_nI (g := μ' 66) (j := t) (by omega) (by omega), rdI_nI (g := μ' 66) (j := u) (by omega) (by omega)]
      simp only [Option.bind_some]
      rw [t1, y1]
      rcases t2 with q | ⟨k, hk, q⟩
      · rw [q, if_pos rfl, if_pos (by decide)]
        exact ⟨_, _, _, rfl, rfl, I⟩
      rw [q, if_neg (nI_m1 (by omega)), if_neg (nn_not_neg (by omega))]
      rcases y2 with q' | ⟨k', hk', q'⟩
      · rw [q', if_pos rfl, if_neg (by decide)]
        exact ⟨_, _, _, rfl, rfl, I⟩
      rw [q', if_neg (nI_m1 (by omega)), if_pos (nI_pos' (by omega)), ite_eq (by omega) (by omega), ite_eq (by omega) (by omega)]
      by_cases ck : k = k'
      rotate_left
      · rw [if_neg ck, if_neg ck]
        exact ⟨_, _, _, rfl, rfl, I⟩
      rw [if_pos ck, if_pos ck, s2, z2]
      obtain ⟨v1, hv1⟩ := range_some (μ := μ) (t := t) (by omega) s1 b e
      by_cases ce : e < 0
      · rw [range_neg (t := t) (by omega) s1 (Or.inr ce), Option.bind_some, if_pos rfl, if_pos ce]
        exact ⟨_, _, _, rfl, rfl, I⟩
      by_cases cb : b < 0
      · rw [range_neg (t := t) (by omega) s1 (Or.inl cb), Option.bind_some, if_pos rfl, if_pos cb, ite_self]
        exact ⟨_, _, _, rfl, rfl, I⟩
      by_cases cd : d < 0
      · rw [hv1, range_neg (t := u) (by omega) z1 (Or.inl cd), Option.bind_some, Option.bind_some, if_pos rfl, if_pos cd, ite_self, ite_self, ite_self]
        exact ⟨_, _, _, rfl, rfl, I⟩
      rw [if_neg ce, if_neg cb, if_neg cd]
      rcases i32_cases e with h | ⟨n, hn, rfl⟩
      · exact absurd h ce
      rcases i32_cases b with h | ⟨i, hi, rfl⟩
      · exact absurd h cb
      rcases i32_cases d with h | ⟨j, hj, rfl⟩
      · exact absurd h cd
      have hx : (nI s - nI n < nI i) ↔ s < i + n := by
        have hq := sub_I (a := s) (b := n) (by omega) (by omega)
        rw [Int32.lt_iff_toInt_lt, hq, nI_toInt (by omega)]
        omega
      have hy : (nI j ≤ nI z - nI n) ↔ j + n ≤ z := by
        have hq := sub_I (a := z) (b := n) (by omega) (by omega)
        rw [Int32.le_iff_toInt_le, hq, nI_toInt (by omega)]
        omega
      rw [range_c (t := t) (by omega) hs s1 hi hn, range_c (t := u) (by omega) hz z1 hj hn, Option.bind_some, Option.bind_some]
      by_cases c1 : i + n ≤ s
      rotate_left
      · rw [if_neg c1, if_pos rfl, if_pos (hx.mpr (by omega))]
        exact ⟨_, _, _, rfl, rfl, I⟩
      rw [if_pos c1, if_neg one_ne, if_neg (show ¬ (nI s - nI n < nI i) from fun w => by have := hx.mp w; omega)]
      by_cases c2 : j + n ≤ z
      rotate_left
      · rw [if_neg c2, if_pos rfl, if_neg (show ¬ (nI j ≤ nI z - nI n) from fun w => c2 (hy.mp w))]
        exact ⟨_, _, _, rfl, rfl, I⟩
      obtain ⟨ν1, a1, a2, a3, a4⟩ := shA (s := s) (t := t) (i := i) (N := n) (by omega) μ' (by omega) (nI u) (nI j) (fun (ν20 : Ml) => L_M_shift_141 (nI u) (nI j) (nI n) μ' (fun (ν28 : Ml) => some (nI n, ν28)) fu 0 ν20) n 0 (by omega) fu (fu_gt (by omega)) 0 rfl ν'
      obtain ⟨ν2, b1, b2, b3⟩ := shB (t := u) (i := j) (N := n) (by omega) μ' (by omega) (fun (ν28 : Ml) => some (nI n, ν28)) n 0 (by omega) fu (fu_gt (by omega)) 0 rfl ν1
      rw [if_pos c2, if_neg one_ne, if_pos (hy.mpr c2), rdR_nI (by omega) (by omega), rdR_nI (by omega) (by omega), Option.bind_some, Option.bind_some, cpL_nI (by omega) (by omega) (by omega) (by omega), Option.bind_some]
      refine ⟨_, _, ν2, rfl, a1.trans b1, I.tp (fun _ _ _ => rfl) (fun _ _ _ => rfl) (fun t' ht' => ?_)⟩
      obtain ⟨t1', t2', s', hs', s1', s2', s3', s4'⟩ := T t' ht'
      refine ⟨t1', t2', s', hs', s1', s2', s3', fun m hm => ?_⟩
      have h67 : ∀ x, ν1 67 x = ν' 67 x := fun x => by rw [a4 67 (by omega)]
      by_cases et : t' = u
      · subst et
        by_cases em : j ≤ m ∧ m < j + n
        · obtain ⟨w, rfl⟩ : ∃ w, m = j + w := ⟨m - j, by omega⟩
          rw [cpW_in em.1 em.2, b2 w (by omega) (by omega), a2 w (by omega) (by omega), Nat.add_sub_cancel_left]
          exact s4 _ (by omega)
        · rw [cpW_out (by omega), b3 _ (by omega), h67]
          exact s4' m hm
      · rw [cpW_out (by omega), b3 _ (by omega), h67]
        exact s4' m hm
    · rw [e1, e2, f1, f2, Option.bind_some, Option.bind_some, Option.bind_some, Option.bind_some, if_neg one_ne, if_neg one_ne, if_pos rfl, if_pos rfl]
      exact ⟨_, _, _, rfl, rfl, I⟩
  · rw [e1, e2, Option.bind_some, Option.bind_some, if_pos rfl, if_pos rfl]
    exact ⟨_, _, _, rfl, rfl, I⟩
end CMD
