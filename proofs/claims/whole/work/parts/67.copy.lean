/-! the reference copies rows -/
theorem L_M_image_71_c (k : Mm → Option (Int32 × Mm)) : ∀ d j, j + d = 6 → ∀ n, d < n → ∀ x, x = nI j → ∀ μ : Mm, ∃ μ1, L_M_image_71 k n x μ = k μ1 ∧ (∀ p, j ≤ p → p < 6 → μ1 52 p = μ 4 p ∧ μ1 53 p = μ 5 p ∧ μ1 54 p = μ 6 p ∧ μ1 55 p = μ 7 p) ∧ (∀ p, p < j → μ1 52 p = μ 52 p ∧ μ1 53 p = μ 53 p ∧ μ1 54 p = μ 54 p ∧ μ1 55 p = μ 55 p) ∧ ∀ c, c ≠ 52 → c ≠ 53 → c ≠ 54 → c ≠ 55 → μ1 c = μ c := by
  intro d
  induction d with
  | zero =>
    intro j hj n hn x hx μ
    subst hx
    obtain ⟨n', rfl⟩ : ∃ m, n = m + 1 := ⟨n - 1, by omega⟩
    refine ⟨μ, ?_, fun p h1 h2 => by omega, fun p _ => ⟨rfl, rfl, rfl, rfl⟩, fun c _ _ _ _ => rfl⟩
    rw [L_M_image_71, show (6 : Int32) = nI 6 from rfl, ite_le (by omega) (by omega), if_pos (by omega)]
  | succ d ih =>
    intro j hj n hn x hx μ
    subst hx
    obtain ⟨n', rfl⟩ : ∃ m, n = m + 1 := ⟨n - 1, by omega⟩
    obtain ⟨μ1, e1, e2, e3, e4⟩ := ih (j + 1) (by omega) n' (by omega) _ rfl (up2 (up2 (up2 (up2 μ 52 j (μ 4 j)) 53 j (μ 5 j)) 54 j (μ 6 j)) 55 j (μ 7 j))
    refine ⟨μ1, ?_, fun p h1 h2 => ?_, fun p hp => ?_, fun c h0 h1 h2 h3 => by rw [e4 c h0 h1 h2 h3, u_cf h3, u_cf h2, u_cf h1, u_cf h0]⟩
    · rw [L_M_image_71, show (6 : Int32) = nI 6 from rfl, ite_le (by omega) (by omega), if_neg (by omega), rdI_nI (by omega) (by omega), Option.bind_some, wrI_nI (by omega) (by omega), Option.bind_some, u_cf (by omega), rdI_nI (by omega) (by omega), Option.bind_some, wrI_nI (by omega) (by omega), Option.bind_some, u_cf (by omega), u_cf (by omega), rdI_nI (by omega) (by omega), Option.bind_some, wrI_nI (by omega) (by omega), Option.bind_some, u_cf (by omega), u_cf (by omega), u_cf (by omega), rdI_nI (by omega) (by omega), Option.bind_some, wrI_nI (by omega) (by omega), Option.bind_some, nI_1]
      exact e1
    · have g := e3 p
      have g2 := e2 p
      by_cases h : p = j
      · subst h
        have g' := g (by omega)
        simp (disch := omega) only [u_nc, u_eq] at g'
        exact g'
      · have g' := g2 (by omega) h2
        simp (disch := omega) only [u_nc] at g'
        exact g'
    · have g' := e3 p (by omega)
      simp (disch := omega) only [u_nc, u_nj] at g'
      exact g'
theorem L_M_image_133_c (k : Mm → Option (Int32 × Mm)) : ∀ d j, j + d = 24 → ∀ n, d < n → ∀ x, x = nI j → ∀ μ : Mm, ∃ μ1, L_M_image_133 k n x μ = k μ1 ∧ (∀ p, j ≤ p → p < 24 → μ1 56 p = μ 8 p) ∧ (∀ p, p < j → μ1 56 p = μ 56 p) ∧ ∀ c, c ≠ 56 → μ1 c = μ c := by
  intro d
  induction d with
  | zero =>
    intro j hj n hn x hx μ
    subst hx
    obtain ⟨n', rfl⟩ : ∃ m, n = m + 1 := ⟨n - 1, by omega⟩
    refine ⟨μ, ?_, fun p h1 h2 => by omega, fun p _ => rfl, fun c _ => rfl⟩
    rw [L_M_image_133, show (24 : Int32) = nI 24 from rfl, ite_le (by omega) (by omega), if_pos (by omega)]
  | succ d ih =>
    intro j hj n hn x hx μ
    subst hx
    obtain ⟨n', rfl⟩ : ∃ m, n = m + 1 := ⟨n - 1, by omega⟩
    obtain ⟨μ1, e1, e2, e3, e4⟩ := ih (j + 1) (by omega) n' (by omega) _ rfl (up2 μ 56 j (μ 8 j))
    refine ⟨μ1, ?_, fun p h1 h2 => ?_, fun p hp => ?_, fun c h0 => by rw [e4 c h0, u_cf h0]⟩
    · rw [L_M_image_133, show (24 : Int32) = nI 24 from rfl, ite_le (by omega) (by omega), if_neg (by omega), rdI_nI (by omega) (by omega), Option.bind_some, wrI_nI (by omega) (by omega), Option.bind_some, nI_1]
      exact e1
    · have g := e3 p
      have g2 := e2 p
      by_cases h : p = j
      · subst h
        have g' := g (by omega)
        simp (disch := omega) only [u_nc, u_eq] at g'
        exact g'
      · have g' := g2 (by omega) h2
        simp (disch := omega) only [u_nc] at g'
        exact g'
    · have g' := e3 p (by omega)
      simp (disch := omega) only [u_nc, u_nj] at g'
      exact g'
theorem L_M_image_159_c (k : Mm → Option (Int32 × Mm)) : ∀ d j, j + d = 5 → ∀ n, d < n → ∀ x, x = nI j → ∀ μ : Mm, ∃ μ1, L_M_image_159 k n x μ = k μ1 ∧ (∀ p, j ≤ p → p < 5 → μ1 57 p = μ 35 p ∧ μ1 58 p = μ 36 p) ∧ (∀ p, p < j → μ1 57 p = μ 57 p ∧ μ1 58 p = μ 58 p) ∧ ∀ c, c ≠ 57 → c ≠ 58 → μ1 c = μ c := by
  intro d
  induction d with
  | zero =>
    intro j hj n hn x hx μ
    subst hx
    obtain ⟨n', rfl⟩ : ∃ m, n = m + 1 := ⟨n - 1, by omega⟩
    refine ⟨μ, ?_, fun p h1 h2 => by omega, fun p _ => ⟨rfl, rfl⟩, fun c _ _ => rfl⟩
    rw [L_M_image_159, show (5 : Int32) = nI 5 from rfl, ite_le (by omega) (by omega), if_pos (by omega)]
  | succ d ih =>
    intro j hj n hn x hx μ
    subst hx
    obtain ⟨n', rfl⟩ : ∃ m, n = m + 1 := ⟨n - 1, by omega⟩
    obtain ⟨μ1, e1, e2, e3, e4⟩ := ih (j + 1) (by omega) n' (by omega) _ rfl (up2 (up2 μ 57 j (μ 35 j)) 58 j (μ 36 j))
    refine ⟨μ1, ?_, fun p h1 h2 => ?_, fun p hp => ?_, fun c h0 h1 => by rw [e4 c h0 h1, u_cf h1, u_cf h0]⟩
    · rw [L_M_image_159, show (5 : Int32) = nI 5 from rfl, ite_le (by omega) (by omega), if_neg (by omega), rdI_nI (by omega) (by omega), Option.bind_some, wrI_nI (by omega) (by omega), Option.bind_some, u_cf (by omega), rdI_nI (by omega) (by omega), Option.bind_some, wrI_nI (by omega) (by omega), Option.bind_some, nI_1]
      exact e1
    · have g := e3 p
      have g2 := e2 p
      by_cases h : p = j
      · subst h
        have g' := g (by omega)
        simp (disch := omega) only [u_nc, u_eq] at g'
        exact g'
      · have g' := g2 (by omega) h2
        simp (disch := omega) only [u_nc] at g'
        exact g'
    · have g' := e3 p (by omega)
      simp (disch := omega) only [u_nc, u_nj] at g'
      exact g'
theorem L_M_image_196_c (k : Mm → Option (Int32 × Mm)) : ∀ d j, j + d = 10 → ∀ n, d < n → ∀ x, x = nI j → ∀ μ : Mm, ∃ μ1, L_M_image_196 k n x μ = k μ1 ∧ (∀ p, j ≤ p → p < 10 → μ1 59 p = μ 39 p ∧ μ1 60 p = μ 40 p) ∧ (∀ p, p < j → μ1 59 p = μ 59 p ∧ μ1 60 p = μ 60 p) ∧ ∀ c, c ≠ 59 → c ≠ 60 → μ1 c = μ c := by
  intro d
  induction d with
  | zero =>
    intro j hj n hn x hx μ
    subst hx
    obtain ⟨n', rfl⟩ : ∃ m, n = m + 1 := ⟨n - 1, by omega⟩
    refine ⟨μ, ?_, fun p h1 h2 => by omega, fun p _ => ⟨rfl, rfl⟩, fun c _ _ => rfl⟩
    rw [L_M_image_196, show (10 : Int32) = nI 10 from rfl, ite_le (by omega) (by omega), if_pos (by omega)]
  | succ d ih =>
    intro j hj n hn x hx μ
    subst hx
    obtain ⟨n', rfl⟩ : ∃ m, n = m + 1 := ⟨n - 1, by omega⟩
    obtain ⟨μ1, e1, e2, e3, e4⟩ := ih (j + 1) (by omega) n' (by omega) _ rfl (up2 (up2 μ 59 j (μ 39 j)) 60 j (μ 40 j))
    refine ⟨μ1, ?_, fun p h1 h2 => ?_, fun p hp => ?_, fun c h0 h1 => by rw [e4 c h0 h1, u_cf h1, u_cf h0]⟩
    · rw [L_M_image_196, show (10 : Int32) = nI 10 from rfl, ite_le (by omega) (by omega), if_neg (by omega), rdI_nI (by omega) (by omega), Option.bind_some, wrI_nI (by omega) (by omega), Option.bind_some, u_cf (by omega), rdI_nI (by omega) (by omega), Option.bind_some, wrI_nI (by omega) (by omega), Option.bind_some, nI_1]
      exact e1
    · have g := e3 p
      have g2 := e2 p
      by_cases h : p = j
      · subst h
        have g' := g (by omega)
        simp (disch := omega) only [u_nc, u_eq] at g'
        exact g'
      · have g' := g2 (by omega) h2
        simp (disch := omega) only [u_nc] at g'
        exact g'
    · have g' := e3 p (by omega)
      simp (disch := omega) only [u_nc, u_nj] at g'
      exact g'
theorem L_M_image_234_c (k : Mm → Option (Int32 × Mm)) : ∀ d j, j + d = 8 → ∀ n, d < n → ∀ x, x = nI j → ∀ μ : Mm, ∃ μ1, L_M_image_234 k n x μ = k μ1 ∧ (∀ p, j ≤ p → p < 8 → μ1 61 p = μ 41 p ∧ μ1 62 p = μ 42 p) ∧ (∀ p, p < j → μ1 61 p = μ 61 p ∧ μ1 62 p = μ 62 p) ∧ ∀ c, c ≠ 61 → c ≠ 62 → μ1 c = μ c := by
  intro d
  induction d with
  | zero =>
    intro j hj n hn x hx μ
    subst hx
    obtain ⟨n', rfl⟩ : ∃ m, n = m + 1 := ⟨n - 1, by omega⟩
    refine ⟨μ, ?_, fun p h1 h2 => by omega, fun p _ => ⟨rfl, rfl⟩, fun c _ _ => rfl⟩
    rw [L_M_image_234, show (8 : Int32) = nI 8 from rfl, ite_le (by omega) (by omega), if_pos (by omega)]
  | succ d ih =>
    intro j hj n hn x hx μ
    subst hx
    obtain ⟨n', rfl⟩ : ∃ m, n = m + 1 := ⟨n - 1, by omega⟩
    obtain ⟨μ1, e1, e2, e3, e4⟩ := ih (j + 1) (by omega) n' (by omega) _ rfl (up2 (up2 μ 61 j (μ 41 j)) 62 j (μ 42 j))
    refine ⟨μ1, ?_, fun p h1 h2 => ?_, fun p hp => ?_, fun c h0 h1 => by rw [e4 c h0 h1, u_cf h1, u_cf h0]⟩
    · rw [L_M_image_234, show (8 : Int32) = nI 8 from rfl, ite_le (by omega) (by omega), if_neg (by omega), rdI_nI (by omega) (by omega), Option.bind_some, wrI_nI (by omega) (by omega), Option.bind_some, u_cf (by omega), rdI_nI (by omega) (by omega), Option.bind_some, wrI_nI (by omega) (by omega), Option.bind_some, nI_1]
      exact e1
    · have g := e3 p
      have g2 := e2 p
      by_cases h : p = j
      · subst h
        have g' := g (by omega)
        simp (disch := omega) only [u_nc, u_eq] at g'
        exact g'
      · have g' := g2 (by omega) h2
        simp (disch := omega) only [u_nc] at g'
        exact g'
    · have g' := e3 p (by omega)
      simp (disch := omega) only [u_nc, u_nj] at g'
      exact g'
theorem L_M_undo_76_c (k : Mm → Option (Int32 × Mm)) : ∀ d j, j + d = 6 → ∀ n, d < n → ∀ x, x = nI j → ∀ μ : Mm, ∃ μ1, L_M_undo_76 k n x μ = k μ1 ∧ (∀ p, j ≤ p → p < 6 → μ1 4 p = μ 52 p ∧ μ1 5 p = μ 53 p ∧ μ1 6 p = μ 54 p ∧ μ1 7 p = μ 55 p) ∧ (∀ p, p < j → μ1 4 p = μ 4 p ∧ μ1 5 p = μ 5 p ∧ μ1 6 p = μ 6 p ∧ μ1 7 p = μ 7 p) ∧ ∀ c, c ≠ 4 → c ≠ 5 → c ≠ 6 → c ≠ 7 → μ1 c = μ c := by
  intro d
  induction d with
  | zero =>
    intro j hj n hn x hx μ
    subst hx
    obtain ⟨n', rfl⟩ : ∃ m, n = m + 1 := ⟨n - 1, by omega⟩
    refine ⟨μ, ?_, fun p h1 h2 => by omega, fun p _ => ⟨rfl, rfl, rfl, rfl⟩, fun c _ _ _ _ => rfl⟩
    rw [L_M_undo_76, show (6 : Int32) = nI 6 from rfl, ite_le (by omega) (by omega), if_pos (by omega)]
  | succ d ih =>
    intro j hj n hn x hx μ
    subst hx
    obtain ⟨n', rfl⟩ : ∃ m, n = m + 1 := ⟨n - 1, by omega⟩
    obtain ⟨μ1, e1, e2, e3, e4⟩ := ih (j + 1) (by omega) n' (by omega) _ rfl (up2 (up2 (up2 (up2 μ 4 j (μ 52 j)) 5 j (μ 53 j)) 6 j (μ 54 j)) 7 j (μ 55 j))
    refine ⟨μ1, ?_, fun p h1 h2 => ?_, fun p hp => ?_, fun c h0 h1 h2 h3 => by rw [e4 c h0 h1 h2 h3, u_cf h3, u_cf h2, u_cf h1, u_cf h0]⟩
    · rw [L_M_undo_76, show (6 : Int32) = nI 6 from rfl, ite_le (by omega) (by omega), if_neg (by omega), rdI_nI (by omega) (by omega), Option.bind_some, wrI_nI (by omega) (by omega), Option.bind_some, u_cf (by omega), rdI_nI (by omega) (by omega), Option.bind_some, wrI_nI (by omega) (by omega), Option.bind_some, u_cf (by omega), u_cf (by omega), rdI_nI (by omega) (by omega), Option.bind_some, wrI_nI (by omega) (by omega), Option.bind_some, u_cf (by omega), u_cf (by omega), u_cf (by omega), rdI_nI (by omega) (by omega), Option.bind_some, wrI_nI (by omega) (by omega), Option.bind_some, nI_1]
      exact e1
    · have g := e3 p
      have g2 := e2 p
      by_cases h : p = j
      · subst h
        have g' := g (by omega)
        simp (disch := omega) only [u_nc, u_eq] at g'
        exact g'
      · have g' := g2 (by omega) h2
        simp (disch := omega) only [u_nc] at g'
        exact g'
    · have g' := e3 p (by omega)
      simp (disch := omega) only [u_nc, u_nj] at g'
      exact g'
theorem L_M_undo_138_c (k : Mm → Option (Int32 × Mm)) : ∀ d j, j + d = 24 → ∀ n, d < n → ∀ x, x = nI j → ∀ μ : Mm, ∃ μ1, L_M_undo_138 k n x μ = k μ1 ∧ (∀ p, j ≤ p → p < 24 → μ1 8 p = μ 56 p) ∧ (∀ p, p < j → μ1 8 p = μ 8 p) ∧ ∀ c, c ≠ 8 → μ1 c = μ c := by
  intro d
  induction d with
  | zero =>
    intro j hj n hn x hx μ
    subst hx
    obtain ⟨n', rfl⟩ : ∃ m, n = m + 1 := ⟨n - 1, by omega⟩
    refine ⟨μ, ?_, fun p h1 h2 => by omega, fun p _ => rfl, fun c _ => rfl⟩
    rw [L_M_undo_138, show (24 : Int32) = nI 24 from rfl, ite_le (by omega) (by omega), if_pos (by omega)]
  | succ d ih =>
    intro j hj n hn x hx μ
    subst hx
    obtain ⟨n', rfl⟩ : ∃ m, n = m + 1 := ⟨n - 1, by omega⟩
    obtain ⟨μ1, e1, e2, e3, e4⟩ := ih (j + 1) (by omega) n' (by omega) _ rfl (up2 μ 8 j (μ 56 j))
    refine ⟨μ1, ?_, fun p h1 h2 => ?_, fun p hp => ?_, fun c h0 => by rw [e4 c h0, u_cf h0]⟩
    · rw [L_M_undo_138, show (24 : Int32) = nI 24 from rfl, ite_le (by omega) (by omega), if_neg (by omega), rdI_nI (by omega) (by omega), Option.bind_some, wrI_nI (by omega) (by omega), Option.bind_some, nI_1]
      exact e1
    · have g := e3 p
      have g2 := e2 p
      by_cases h : p = j
      · subst h
        have g' := g (by omega)
        simp (disch := omega) only [u_nc, u_eq] at g'
        exact g'
      · have g' := g2 (by omega) h2
        simp (disch := omega) only [u_nc] at g'
        exact g'
    · have g' := e3 p (by omega)
      simp (disch := omega) only [u_nc, u_nj] at g'
      exact g'
theorem L_M_undo_164_c (k : Mm → Option (Int32 × Mm)) : ∀ d j, j + d = 5 → ∀ n, d < n → ∀ x, x = nI j → ∀ μ : Mm, ∃ μ1, L_M_undo_164 k n x μ = k μ1 ∧ (∀ p, j ≤ p → p < 5 → μ1 35 p = μ 57 p ∧ μ1 36 p = μ 58 p) ∧ (∀ p, p < j → μ1 35 p = μ 35 p ∧ μ1 36 p = μ 36 p) ∧ ∀ c, c ≠ 35 → c ≠ 36 → μ1 c = μ c := by
  intro d
  induction d with
  | zero =>
    intro j hj n hn x hx μ
    subst hx
    obtain ⟨n', rfl⟩ : ∃ m, n = m + 1 := ⟨n - 1, by omega⟩
    refine ⟨μ, ?_, fun p h1 h2 => by omega, fun p _ => ⟨rfl, rfl⟩, fun c _ _ => rfl⟩
    rw [L_M_undo_164, show (5 : Int32) = nI 5 from rfl, ite_le (by omega) (by omega), if_pos (by omega)]
  | succ d ih =>
    intro j hj n hn x hx μ
    subst hx
    obtain ⟨n', rfl⟩ : ∃ m, n = m + 1 := ⟨n - 1, by omega⟩
    obtain ⟨μ1, e1, e2, e3, e4⟩ := ih (j + 1) (by omega) n' (by omega) _ rfl (up2 (up2 μ 35 j (μ 57 j)) 36 j (μ 58 j))
    refine ⟨μ1, ?_, fun p h1 h2 => ?_, fun p hp => ?_, fun c h0 h1 => by rw [e4 c h0 h1, u_cf h1, u_cf h0]⟩
    · rw [L_M_undo_164, show (5 : Int32) = nI 5 from rfl, ite_le (by omega) (by omega), if_neg (by omega), rdI_nI (by omega) (by omega), Option.bind_some, wrI_nI (by omega) (by omega), Option.bind_some, u_cf (by omega), rdI_nI (by omega) (by omega), Option.bind_some, wrI_nI (by omega) (by omega), Option.bind_some, nI_1]
      exact e1
    · have g := e3 p
      have g2 := e2 p
      by_cases h : p = j
      · subst h
        have g' := g (by omega)
        simp (disch := omega) only [u_nc, u_eq] at g'
        exact g'
      · have g' := g2 (by omega) h2
        simp (disch := omega) only [u_nc] at g'
        exact g'
    · have g' := e3 p (by omega)
      simp (disch := omega) only [u_nc, u_nj] at g'
      exact g'
theorem L_M_undo_201_c (k : Mm → Option (Int32 × Mm)) : ∀ d j, j + d = 10 → ∀ n, d < n → ∀ x, x = nI j → ∀ μ : Mm, ∃ μ1, L_M_undo_201 k n x μ = k μ1 ∧ (∀ p, j ≤ p → p < 10 → μ1 39 p = μ 59 p ∧ μ1 40 p = μ 60 p) ∧ (∀ p, p < j → μ1 39 p = μ 39 p ∧ μ1 40 p = μ 40 p) ∧ ∀ c, c ≠ 39 → c ≠ 40 → μ1 c = μ c := by
  intro d
  induction d with
  | zero =>
    intro j hj n hn x hx μ
    subst hx
    obtain ⟨n', rfl⟩ : ∃ m, n = m + 1 := ⟨n - 1, by omega⟩
    refine ⟨μ, ?_, fun p h1 h2 => by omega, fun p _ => ⟨rfl, rfl⟩, fun c _ _ => rfl⟩
    rw [L_M_undo_201, show (10 : Int32) = nI 10 from rfl, ite_le (by omega) (by omega), if_pos (by omega)]
  | succ d ih =>
    intro j hj n hn x hx μ
    subst hx
    obtain ⟨n', rfl⟩ : ∃ m, n = m + 1 := ⟨n - 1, by omega⟩
    obtain ⟨μ1, e1, e2, e3, e4⟩ := ih (j + 1) (by omega) n' (by omega) _ rfl (up2 (up2 μ 39 j (μ 59 j)) 40 j (μ 60 j))
    refine ⟨μ1, ?_, fun p h1 h2 => ?_, fun p hp => ?_, fun c h0 h1 => by rw [e4 c h0 h1, u_cf h1, u_cf h0]⟩
    · rw [L_M_undo_201, show (10 : Int32) = nI 10 from rfl, ite_le (by omega) (by omega), if_neg (by omega), rdI_nI (by omega) (by omega), Option.bind_some, wrI_nI (by omega) (by omega), Option.bind_some, u_cf (by omega), rdI_nI (by omega) (by omega), Option.bind_some, wrI_nI (by omega) (by omega), Option.bind_some, nI_1]
      exact e1
    · have g := e3 p
      have g2 := e2 p
      by_cases h : p = j
      · subst h
        have g' := g (by omega)
        simp (disch := omega) only [u_nc, u_eq] at g'
        exact g'
      · have g' := g2 (by omega) h2
        simp (disch := omega) only [u_nc] at g'
        exact g'
    · have g' := e3 p (by omega)
      simp (disch := omega) only [u_nc, u_nj] at g'
      exact g'
theorem L_M_undo_239_c (k : Mm → Option (Int32 × Mm)) : ∀ d j, j + d = 8 → ∀ n, d < n → ∀ x, x = nI j → ∀ μ : Mm, ∃ μ1, L_M_undo_239 k n x μ = k μ1 ∧ (∀ p, j ≤ p → p < 8 → μ1 41 p = μ 61 p ∧ μ1 42 p = μ 62 p) ∧ (∀ p, p < j → μ1 41 p = μ 41 p ∧ μ1 42 p = μ 42 p) ∧ ∀ c, c ≠ 41 → c ≠ 42 → μ1 c = μ c := by
  intro d
  induction d with
  | zero =>
    intro j hj n hn x hx μ
    subst hx
    obtain ⟨n', rfl⟩ : ∃ m, n = m + 1 := ⟨n - 1, by omega⟩
    refine ⟨μ, ?_, fun p h1 h2 => by omega, fun p _ => ⟨rfl, rfl⟩, fun c _ _ => rfl⟩
    rw [L_M_undo_239, show (8 : Int32) = nI 8 from rfl, ite_le (by omega) (by omega), if_pos (by omega)]
  | succ d ih =>
    intro j hj n hn x hx μ
    subst hx
    obtain ⟨n', rfl⟩ : ∃ m, n = m + 1 := ⟨n - 1, by omega⟩
    obtain ⟨μ1, e1, e2, e3, e4⟩ := ih (j + 1) (by omega) n' (by omega) _ rfl (up2 (up2 μ 41 j (μ 61 j)) 42 j (μ 62 j))
    refine ⟨μ1, ?_, fun p h1 h2 => ?_, fun p hp => ?_, fun c h0 h1 => by rw [e4 c h0 h1, u_cf h1, u_cf h0]⟩
    · rw [L_M_undo_239, show (8 : Int32) = nI 8 from rfl, ite_le (by omega) (by omega), if_neg (by omega), rdI_nI (by omega) (by omega), Option.bind_some, wrI_nI (by omega) (by omega), Option.bind_some, u_cf (by omega), rdI_nI (by omega) (by omega), Option.bind_some, wrI_nI (by omega) (by omega), Option.bind_some, nI_1]
      exact e1
    · have g := e3 p
      have g2 := e2 p
      by_cases h : p = j
      · subst h
        have g' := g (by omega)
        simp (disch := omega) only [u_nc, u_eq] at g'
        exact g'
      · have g' := g2 (by omega) h2
        simp (disch := omega) only [u_nc] at g'
        exact g'
    · have g' := e3 p (by omega)
      simp (disch := omega) only [u_nc, u_nj] at g'
      exact g'
