/-! the reference reads what must hold: all of it -/
def WQ (c S w0 k o : Nat) (μ : Mm) (res : Option (Int32 × Mm)) (P : Nat ⊕ (Er × Nat)) : Prop := match P with
  | .inl p => ∃ μ1, res = some (0, μ1) ∧ μ1 0 12 = nI p ∧ FE c S w0 μ μ1
  | .inr (e, j) => ∃ n1 μ1, res = L_M_takesE_22 (nI c) K0 n1 0 μ1 ∧ 100 - j < n1 ∧ SE j (S + e.1.length + k) w0 o μ1 ∧ Rp (μ1 20) S (e.1 ++ List.replicate k 10033) ∧ FE c S w0 μ μ1
def VQ (g : Nat → Nat) (c S0 wb o : Nat) (μ : Mm) (res : Option (Int32 × Mm)) (P : Nat ⊕ (Er × Nat)) : Prop := match P with
  | .inl p => ∃ μ1, res = some (0, μ1) ∧ μ1 0 12 = nI p ∧ FE c S0 wb μ μ1
  | .inr (e, j) => ∃ n1 μ1, res = eF c n1 (sI (g j)) μ1 ∧ 100 - j ≤ n1 ∧ SE j (S0 + e.1.length) wb o μ1 ∧ Rp (μ1 20) S0 e.1 ∧ FE c S0 wb μ μ1
theorem hTrue : Clo (fun _ => True) := ⟨fun _ _ _ _ _ _ => trivial, fun _ _ => trivial, fun _ _ _ _ => trivial, fun _ _ _ _ => trivial⟩
/-- a sign of joining is put behind what is settled -/
theorem e_op2 {c n j S w o b : Nat} {μ : Mm} (h : SE j S w o μ) (hw : w < 101) : ∃ μ1, ((wrI μ 21 101 (μ 0 23) (nI b)).bind fun μ19 => lt_ (up2 μ19 0 23 ((μ19 0 23) + 1)) fun μ20 => lt_ (up2 μ20 0 12 ((μ20 0 12) + 1)) fun μ21 => L_M_takesE_22 (nI c) K0 n 1 μ21) = L_M_takesE_22 (nI c) K0 n 1 μ1 ∧ SE (j + 1) S (w + 1) o μ1 ∧ μ1 21 w = nI b ∧ FE c S w μ μ1 ∧ μ1 20 = μ 20 := by
  obtain ⟨h1, h2, h3, h4⟩ := h
  have e3 : up2 μ 21 w (nI b) 0 23 = nI w := (u_nc (by omega)).trans h3
  have e1 : up2 (up2 μ 21 w (nI b)) 0 23 (nI (w + 1)) 0 12 = nI j := by rw [u_nj (by omega), u_nc (by omega)]; exact h1
  have t : ((wrI μ 21 101 (μ 0 23) (nI b)).bind fun μ19 => lt_ (up2 μ19 0 23 ((μ19 0 23) + 1)) fun μ20 => lt_ (up2 μ20 0 12 ((μ20 0 12) + 1)) fun μ21 => L_M_takesE_22 (nI c) K0 n 1 μ21) = L_M_takesE_22 (nI c) K0 n 1 (up2 (up2 (up2 μ 21 w (nI b)) 0 23 (nI (w + 1))) 0 12 (nI (j + 1))) := by
    rw [h3, wrI_nI hw (by omega), Option.bind_some, lt_e, e3, nI_1, lt_e, e1, nI_1]
  refine ⟨_, t, ⟨u_eq rfl rfl, ?_, (u_nj (by omega)).trans (u_eq rfl rfl), ?_⟩, ?_, ((FE.rf.u21 (Nat.le_refl w)).u0 (by omega)).u0 (by omega), ?_⟩
  · rw [u_nj (by omega), u_nj (by omega), u_nc (by omega)]; exact h2
  · rw [u_nj (by omega), u_nj (by omega), u_nc (by omega)]; exact h4
  · rw [u_nc (by omega), u_nc (by omega)]; exact u_eq rfl rfl
  · rw [u_cf (by omega), u_cf (by omega), u_cf (by omega)]
theorem m_opL {g : Nat → Nat} {c B r : Nat} (hB : B ≤ 500) (hr : r ≤ 4) (hW : ∀ i w0 S μ n, GM g μ → i ≤ 100 → SE i S w0 (4 - r) μ → S + w0 ≤ B + i → w0 ≤ i → NB w0 μ → 100 - i < n → WQ c S w0 0 (4 - r) μ (L_M_takesE_22 (nI c) K0 n 1 μ) (pS g r i)) : ∀ m n S0 wb A C S j μ, GM g μ → j ≤ 100 → 100 ≤ j + m → 100 - j < n → SE j (S0 + (oc A).length + (oc C).length + S.1.length) (wb + nO A + nO C) (4 - r) μ → S0 + (oc A).length + (oc C).length + S.1.length + wb + nO A + nO C ≤ B + j → wb + nO A + nO C ≤ j → PD A C wb μ → BB wb μ → Rp (μ 20) S0 (oc A ++ (oc C ++ S.1)) → VQ g c S0 wb (4 - r) μ (L_M_takesE_22 (nI c) K0 n 0 μ) (pL (pS g r) g m A C S j) := by
  -- the end
  have fin : ∀ n S0 wb A C S j μ, GM g μ → j ≤ 100 → 100 - j < n → SE j (S0 + (oc A).length + (oc C).length + S.1.length) (wb + nO A + nO C) (4 - r) μ → S0 + (oc A).length + (oc C).length + S.1.length + wb + nO A + nO C ≤ B + j → wb + nO A + nO C ≤ j → PD A C wb μ → BB wb μ → Rp (μ 20) S0 (oc A ++ (oc C ++ S.1)) → g j ≠ 38 → g j ≠ 124 → VQ g c S0 wb (4 - r) μ (L_M_takesE_22 (nI c) K0 n 0 μ) (.inr (aT A (cT C S), j)) := by
    intro n S0 wb A C S j μ G hj hn h hS hw hP hBB hR c1 c2
    obtain ⟨N1, rfl⟩ : ∃ N, n = N + 1 := ⟨n - 1, by omega⟩
    obtain ⟨μ1, a1, a2, a3, a4⟩ := settle124 (c := c) h (by omega) (by omega) hP hBB hR
    rw [e_fin G (by omega) h c1 c2, a1, Option.bind_some]
    exact ⟨N1, μ1, rfl, by omega, a2, a4, a3.tr FE.rf (Q2 := S0) (W2 := 1000) (Nat.le_refl _) (Nat.le_refl _) (by omega) (by omega)⟩
  intro m
  induction m with
  | zero =>
    intro n S0 wb A C S j μ G hj hm hn h hS hw hP hBB hR
    have := G.e j (by omega)
    exact fin n S0 wb A C S j μ G hj hn h hS hw hP hBB hR (by omega) (by omega)
  | succ m ih =>
    intro n S0 wb A C S j μ G hj hm hn h hS hw hP hBB hR
    have ep : pL (pS g r) g (m + 1) A C S j = (if g j = 38 then (match pS g r (j + 1) with
      | .inl p => .inl p
      | .inr (S', j') => pL (pS g r) g m A (some (cT C S)) S' j') else if g j = 124 then (match pS g r (j + 1) with
      | .inl p => .inl p
      | .inr (S', j') => pL (pS g r) g m (some (aT A (cT C S))) none S' j') else .inr (aT A (cT C S), j)) := rfl
    rw [ep]
    have hlc := cT_len C S
    have hlcO := lenO_e C
    have hla := aT_len A (cT C S)
    have hlaO := lenO_e A
    have hA1 : nO A ≤ 1 := by
      cases A
      · exact Nat.zero_le 1
      · exact Nat.le_refl 1
    by_cases c1 : g j = 38
    · have hj' := G.in (i := j) (by omega)
      obtain ⟨N1, rfl⟩ : ∃ N, n = N + 1 := ⟨n - 1, by omega⟩
      obtain ⟨μ1, a1, a2, a3, a4⟩ := settle38 (c := c) h (by omega) (by omega) hP hBB hR
      obtain ⟨μ2, b1, b2, b3, b4, b5⟩ := e_op2 (c := c) (n := N1) (b := 38) a2 (by omega)
      rw [if_pos c1, e_op G (by omega) h (Or.inl rfl) c1, a1, Option.bind_some, b1]
      have F2 : FE c S0 (wb + nO A) μ μ2 := a3.tr b4 (Nat.le_refl _) (by omega) (by omega) (Nat.le_refl _)
      have R2 : Rp (μ2 20) S0 (oc A ++ (cT C S).1) := by rw [b5]; exact a4
      have W := hW (j + 1) (wb + nO A + 1) _ μ2 N1 (F2.g G) (by omega) b2 (by omega) (by omega) (Or.inr ⟨38, by omega, by omega, b3⟩) (by omega)
      cases hp : pS g r (j + 1) with
      | inl q =>
        rw [hp] at W
        obtain ⟨μ3, d1, d2, d3⟩ := W
        exact ⟨μ3, d1, d2, F2.tr d3 (Nat.le_refl _) (by omega) (by omega) (by omega)⟩
      | inr y =>
        obtain ⟨S', j'⟩ := y
        rw [hp] at W
        obtain ⟨n1, μ3, d1, d2, d3, d4, d5⟩ := W
        obtain ⟨p1, p2, p3, _⟩ := pS_ok hTrue G.e r _ _ _ hp
        have F3 : FE c S0 (wb + nO A) μ μ3 := F2.tr d5 (Nat.le_refl _) (by omega) (Nat.le_refl _) (by omega)
        have hb : BB wb μ3 := hBB.mv F3 (by omega)
        have hpd : PD A (some (cT C S)) wb μ3 := by
          refine ⟨fun x => (F3.2.2.2.2 wb (by omega)).trans (hP.1 x), fun _ => (d5.2.2.2.2 _ (by omega)).trans b3⟩
        have hr3 : Rp (μ3 20) S0 (oc A ++ (oc (some (cT C S)) ++ S'.1)) := by
          rw [← List.append_assoc]
          refine (R2.mv (fun q q1 q2 => d5.2.2.2.1 q ?_)).app ?_
          · rw [List.length_append] at q2
            omega
          · rw [List.length_append]
            rw [List.replicate_zero, List.append_nil] at d4
            exact (show S0 + (oc A).length + (cT C S).1.length = S0 + ((oc A).length + (cT C S).1.length) by omega) ▸ d4
        have V := ih n1 S0 wb A (some (cT C S)) S' j' μ3 (F3.g G) p2 (by omega) d2 (by exact d3) (by show S0 + (oc A).length + (cT C S).1.length + S'.1.length + wb + nO A + 1 ≤ B + j'; omega) (by show wb + nO A + 1 ≤ j'; omega) hpd hb hr3
        rw [d1]
        show VQ g c S0 wb (4 - r) μ _ (pL (pS g r) g m A (some (cT C S)) S' j')
        cases hq : pL (pS g r) g m A (some (cT C S)) S' j' with
        | inl q =>
          rw [hq] at V
          obtain ⟨μ4, k1, k2, k3⟩ := V
          exact ⟨μ4, k1, k2, F3.tr k3 (Nat.le_refl _) (Nat.le_refl _) (by omega) (Nat.le_refl _)⟩
        | inr y =>
          obtain ⟨e, j2⟩ := y
          rw [hq] at V
          obtain ⟨n2, μ4, k1, k2, k3, k4, k5⟩ := V
          exact ⟨n2, μ4, k1, k2, k3, k4, F3.tr k5 (Nat.le_refl _) (Nat.le_refl _) (by omega) (Nat.le_refl _)⟩
    · rw [if_neg c1]
      by_cases c2 : g j = 124
      · have hj' := G.in (i := j) (by omega)
        obtain ⟨N1, rfl⟩ : ∃ N, n = N + 1 := ⟨n - 1, by omega⟩
        obtain ⟨μ1, a1, a2, a3, a4⟩ := settle124 (c := c) h (by omega) (by omega) hP hBB hR
        obtain ⟨μ2, b1, b2, b3, b4, b5⟩ := e_op2 (c := c) (n := N1) (b := 124) a2 (by omega)
        have a1' : F_M_settle (nI 124) μ = some μ1 := a1
        rw [if_pos c2, e_op G (by omega) h (Or.inr rfl) c2, a1', Option.bind_some, b1]
        have F2 : FE c S0 wb μ μ2 := a3.tr b4 (Nat.le_refl _) (by omega) (by omega) (Nat.le_refl _)
        have R2 : Rp (μ2 20) S0 (aT A (cT C S)).1 := by rw [b5]; exact a4
        have W := hW (j + 1) (wb + 1) _ μ2 N1 (F2.g G) (by omega) b2 (by omega) (by omega) (Or.inr ⟨124, by omega, by omega, b3⟩) (by omega)
        cases hp : pS g r (j + 1) with
        | inl q =>
          rw [hp] at W
          obtain ⟨μ3, d1, d2, d3⟩ := W
          exact ⟨μ3, d1, d2, F2.tr d3 (Nat.le_refl _) (by omega) (by omega) (by omega)⟩
        | inr y =>
          obtain ⟨S', j'⟩ := y
          rw [hp] at W
          obtain ⟨n1, μ3, d1, d2, d3, d4, d5⟩ := W
          obtain ⟨p1, p2, p3, _⟩ := pS_ok hTrue G.e r _ _ _ hp
          have F3 : FE c S0 wb μ μ3 := F2.tr d5 (Nat.le_refl _) (by omega) (Nat.le_refl _) (by omega)
          have hb : BB wb μ3 := hBB.mv F3 (by omega)
          have hpd : PD (some (aT A (cT C S))) none wb μ3 := by
            refine ⟨fun _ => (d5.2.2.2.2 _ (by omega)).trans b3, fun x => absurd x (by decide)⟩
          have hr3 : Rp (μ3 20) S0 (oc (some (aT A (cT C S))) ++ (oc none ++ S'.1)) := by
            refine (R2.mv (fun q q1 q2 => d5.2.2.2.1 q q2)).app ?_
            rw [List.replicate_zero, List.append_nil] at d4
            exact d4
          have V := ih n1 S0 wb (some (aT A (cT C S))) none S' j' μ3 (F3.g G) p2 (by omega) d2 (by exact d3) (by show S0 + (aT A (cT C S)).1.length + 0 + S'.1.length + wb + 1 + 0 ≤ B + j'; omega) (by show wb + 1 + 0 ≤ j'; omega) hpd hb hr3
          rw [d1]
          show VQ g c S0 wb (4 - r) μ _ (pL (pS g r) g m (some (aT A (cT C S))) none S' j')
          cases hq : pL (pS g r) g m (some (aT A (cT C S))) none S' j' with
          | inl q =>
            rw [hq] at V
            obtain ⟨μ4, k1, k2, k3⟩ := V
            exact ⟨μ4, k1, k2, F3.tr k3 (Nat.le_refl _) (Nat.le_refl _) (by omega) (Nat.le_refl _)⟩
          | inr y =>
            obtain ⟨e, j2⟩ := y
            rw [hq] at V
            obtain ⟨n2, μ4, k1, k2, k3, k4, k5⟩ := V
            exact ⟨n2, μ4, k1, k2, k3, k4, F3.tr k5 (Nat.le_refl _) (Nat.le_refl _) (by omega) (Nat.le_refl _)⟩
      · rw [if_neg c2]
        exact fin n S0 wb A C S j μ G hj hn h hS hw hP hBB hR c1 c2
theorem m_eL {g : Nat → Nat} {c B r : Nat} (hB : B ≤ 500) (hr : r ≤ 4) (hW : ∀ i w0 S μ n, GM g μ → i ≤ 100 → SE i S w0 (4 - r) μ → S + w0 ≤ B + i → w0 ≤ i → NB w0 μ → 100 - i < n → WQ c S w0 0 (4 - r) μ (L_M_takesE_22 (nI c) K0 n 1 μ) (pS g r i)) {i n S0 wb : Nat} {μ : Mm} (G : GM g μ) (hi : i ≤ 100) (h : SE i S0 wb (4 - r) μ) (hS : S0 + wb ≤ B + i) (hw : wb ≤ i) (hBB : BB wb μ) (hn : 100 - i < n) : VQ g c S0 wb (4 - r) μ (L_M_takesE_22 (nI c) K0 n 1 μ) (pE (pS g r) g i) := by
  have W := hW i wb S0 μ n G hi h hS hw hBB.nb hn
  unfold pE
  cases hp : pS g r i with
  | inl q =>
    rw [hp] at W
    exact W
  | inr y =>
    obtain ⟨S', j'⟩ := y
    rw [hp] at W
    obtain ⟨n1, μ3, d1, d2, d3, d4, d5⟩ := W
    obtain ⟨p1, p2, p3, _⟩ := pS_ok hTrue G.e r _ _ _ hp
    rw [List.replicate_zero, List.append_nil] at d4
    have V := m_opL hB hr hW 100 n1 S0 wb none none S' j' μ3 (d5.g G) p2 (by omega) d2 d3 (by show S0 + 0 + 0 + S'.1.length + wb + 0 + 0 ≤ B + j'; omega) (by show wb + 0 + 0 ≤ j'; omega) ⟨fun x => absurd x (by decide), fun x => absurd x (by decide)⟩ (hBB.mv d5 (Nat.le_refl _)) d4
    rw [d1]
    show VQ g c S0 wb (4 - r) μ _ (pL (pS g r) g 100 none none S' j')
    cases hq : pL (pS g r) g 100 none none S' j' with
    | inl q =>
      rw [hq] at V
      obtain ⟨μ4, k1, k2, k3⟩ := V
      exact ⟨μ4, k1, k2, d5.tr k3 (Nat.le_refl _) (Nat.le_refl _) (by omega) (Nat.le_refl _)⟩
    | inr y =>
      obtain ⟨e, j2⟩ := y
      rw [hq] at V
      obtain ⟨n2, μ4, k1, k2, k3, k4, k5⟩ := V
      exact ⟨n2, μ4, k1, k2, k3, k4, d5.tr k5 (Nat.le_refl _) (Nat.le_refl _) (by omega) (Nat.le_refl _)⟩
theorem m_wL {g : Nat → Nat} {c B : Nat} (hB : B ≤ 500) (hc : c < 60) : ∀ r, r ≤ 4 → ∀ i w0 k o S μ n, o + k + r = 4 → GM g μ → i ≤ 100 → SE i S (w0 + k) (o + k) μ → S + w0 + k ≤ B + i → w0 + k ≤ i → NB w0 μ → (∀ q, w0 ≤ q → q < w0 + k → μ 21 q = 33) → 100 - i < n → WQ c S w0 k o μ (L_M_takesE_22 (nI c) K0 n 1 μ) (pS g r i) := by
  -- a test
  have tst : ∀ i w0 k o S μ n, GM g μ → i ≤ 100 → SE i S (w0 + k) (o + k) μ → S + w0 + k ≤ B + i → w0 + k ≤ i → NB w0 μ → (∀ q, w0 ≤ q → q < w0 + k → μ 21 q = 33) → 100 - i < n → g i ≠ 33 → g i ≠ 40 → WQ c S w0 k o μ (L_M_takesE_22 (nI c) K0 n 1 μ) (pT g i) := by
    intro i w0 k o S μ n G hi h hS hw hN hm hn c1 c2
    obtain ⟨N1, rfl⟩ : ∃ N, n = N + 1 := ⟨n - 1, by omega⟩
    have T := m_test (c := c) G hi h (fun q => by have := G.in q; omega) (by omega) hN hm
    rw [e_test G (by omega) h c1 c2]
    cases hp : pT g i with
    | inl q =>
      rw [hp] at T
      obtain ⟨μ1, a1, a2, a3⟩ := T
      rw [a1]
      exact ⟨μ1, rfl, a2, a3⟩
    | inr y =>
      obtain ⟨e, j⟩ := y
      rw [hp] at T
      obtain ⟨μ1, a1, a2, a3, a4⟩ := T
      obtain ⟨p1, p2, _⟩ := pT_ok G.e hp
      rw [a1]
      exact ⟨N1, μ1, rfl, by omega, a2, a3, a4⟩
  intro r
  induction r with
  | zero =>
    intro hr i w0 k o S μ n ho G hi h hS hw hN hm hn
    show WQ c S w0 k o μ _ (pT g i)
    have ho4 : o + k = 4 := by omega
    by_cases c1 : g i = 33
    · obtain ⟨N1, rfl⟩ : ∃ N, n = N + 1 := ⟨n - 1, by omega⟩
      have e : pT g i = .inl i := by
        unfold pT
        rw [c1]
        rfl
      rw [e_full G (by omega) (ho4 ▸ h) (Or.inl rfl) c1, e]
      exact ⟨μ, rfl, h.1, FE.rf⟩
    · by_cases c2 : g i = 40
      · obtain ⟨N1, rfl⟩ : ∃ N, n = N + 1 := ⟨n - 1, by omega⟩
        have e : pT g i = .inl i := by
          unfold pT
          rw [c2]
          rfl
        rw [e_full G (by omega) (ho4 ▸ h) (Or.inr rfl) c2, e]
        exact ⟨μ, rfl, h.1, FE.rf⟩
      · exact tst i w0 k o S μ n G hi h hS hw hN hm hn c1 c2
  | succ r ih =>
    intro hr i w0 k o S μ n ho G hi h hS hw hN hm hn
    have ep : pS g (r + 1) i = (if g i = 33 then (match pS g r (i + 1) with
      | .inl p => .inl p
      | .inr (e, j) => .inr (nT e, j)) else if g i = 40 then (match pE (pS g r) g (i + 1) with
      | .inl p => .inl p
      | .inr (e, j) => if g j = 41 then .inr (e, j + 1) else .inl j) else pT g i) := rfl
    rw [ep]
    by_cases c1 : g i = 33
    · have hi' := G.in (i := i) (by omega)
      obtain ⟨N1, rfl⟩ : ∃ N, n = N + 1 := ⟨n - 1, by omega⟩
      obtain ⟨μ1, a1, a2, a3, a4⟩ := e_push (c := c) (n := N1) G (by omega) h (Or.inl rfl) c1 (by omega) (by omega)
      have W := ih (by omega) (i + 1) w0 (k + 1) o S μ1 N1 (by omega) (a4.g G) (by omega) a2 (by omega) (by omega) (hN.mv a4 (by omega)) (fun q q1 q2 => by
        by_cases e : q = w0 + k
        · rw [e]; exact a3
        · exact (a4.2.2.2.2 q (by omega)).trans (hm q q1 (by omega))) (by omega)
      rw [if_pos c1, a1]
      cases hp : pS g r (i + 1) with
      | inl q =>
        rw [hp] at W
        obtain ⟨μ2, b1, b2, b3⟩ := W
        exact ⟨μ2, b1, b2, a4.tr b3 (Nat.le_refl _) (Nat.le_refl _) (by omega) (Nat.le_refl _)⟩
      | inr y =>
        obtain ⟨e, j⟩ := y
        rw [hp] at W
        obtain ⟨n1, μ2, b1, b2, b3, b4, b5⟩ := W
        have el : (nT e).1 ++ List.replicate k 10033 = e.1 ++ List.replicate (k + 1) 10033 := by
          show e.1 ++ [10033] ++ List.replicate k 10033 = _
          rw [List.append_assoc]
          rfl
        have ell : (nT e).1.length = e.1.length + 1 := by
          show (e.1 ++ [10033]).length = _
          rw [List.length_append]
          rfl
        refine ⟨n1, μ2, b1, b2, ?_, by rw [el]; exact b4, a4.tr b5 (Nat.le_refl _) (Nat.le_refl _) (by omega) (Nat.le_refl _)⟩
        rw [ell]
        exact (show S + e.1.length + (k + 1) = S + (e.1.length + 1) + k by omega) ▸ b3
    · rw [if_neg c1]
      by_cases c2 : g i = 40
      · have hi' := G.in (i := i) (by omega)
        obtain ⟨N1, rfl⟩ : ∃ N, n = N + 1 := ⟨n - 1, by omega⟩
        obtain ⟨μ1, a1, a2, a3, a4⟩ := e_push (c := c) (n := N1) G (by omega) h (Or.inr rfl) c2 (by omega) (by omega)
        have ho' : o + k + 1 = 4 - r := by omega
        have V := m_eL (c := c) (r := r) hB (by omega) (fun i w0 S μ n G hi h hS hw hN hn => ih (by omega) i w0 0 (4 - r) S μ n (by omega) G hi h (by omega) (by omega) hN (fun q q1 q2 => by omega) hn) (i := i + 1) (n := N1) (S0 := S) (wb := w0 + k + 1) (μ := μ1) (a4.g G) (by omega) (ho' ▸ a2) (by omega) (by omega) (Or.inr a3) (by omega)
        rw [if_pos c2, a1]
        cases hp : pE (pS g r) g (i + 1) with
        | inl q =>
          rw [hp] at V
          obtain ⟨μ2, b1, b2, b3⟩ := V
          exact ⟨μ2, b1, b2, a4.tr b3 (Nat.le_refl _) (Nat.le_refl _) (by omega) (by omega)⟩
        | inr y =>
          obtain ⟨e, j⟩ := y
          rw [hp] at V
          obtain ⟨n1, μ2, b1, b2, b3, b4, b5⟩ := V
          obtain ⟨p1, p2, p3, _⟩ := pE_ok hTrue G.e (fun i e j h => pS_ok hTrue G.e r i e j h) hp
          have F2 : FE c S w0 μ μ2 := a4.tr b5 (Nat.le_refl _) (Nat.le_refl _) (by omega) (by omega)
          have F3 : FE c S w0 μ (up2 μ2 19 c (nI (S + e.1.length))) := F2.u19
          have x23 : up2 μ2 19 c (nI (S + e.1.length)) 0 23 = nI (w0 + k + 1) := (u_nc (by omega)).trans b3.2.2.1
          show WQ c S w0 k o μ _ (if g j = 41 then .inr (e, j + 1) else .inl j)
          rw [b1]
          unfold eF
          rw [b3.2.1, wrI_nI hc (by omega), Option.bind_some, x23, q0, ite_eq (by omega) (by omega), if_neg (show ¬ w0 + k + 1 = 0 by omega), ite_s (K := 41) (G.lt j) (k := 41) (by omega) rfl]
          by_cases c3 : g j = 41
          · have hj' := G.in (i := j) (by omega)
            have y23 : nI (w0 + k + 1) - 1 = nI (w0 + k) := nI_s (w0 + k) 1
            have z24 : up2 (up2 μ2 19 c (nI (S + e.1.length))) 0 23 (nI (w0 + k)) 0 24 = nI (o + k + 1) := by rw [u_nj (by omega), u_nc (by omega), ho']; exact b3.2.2.2
            have y24 : nI (o + k + 1) - 1 = nI (o + k) := nI_s (o + k) 1
            have z12 : up2 (up2 (up2 μ2 19 c (nI (S + e.1.length))) 0 23 (nI (w0 + k))) 0 24 (nI (o + k)) 0 12 = nI j := by rw [u_nj (by omega), u_nj (by omega), u_nc (by omega)]; exact b3.1
            have F4 : FE c S w0 μ (up2 (up2 (up2 (up2 μ2 19 c (nI (S + e.1.length))) 0 23 (nI (w0 + k))) 0 24 (nI (o + k))) 0 12 (nI (j + 1))) := ((F3.u0 (by omega)).u0 (by omega)).u0 (by omega)
            have S4 : SE (j + 1) (S + e.1.length) (w0 + k) (o + k) (up2 (up2 (up2 (up2 μ2 19 c (nI (S + e.1.length))) 0 23 (nI (w0 + k))) 0 24 (nI (o + k))) 0 12 (nI (j + 1))) := ⟨u_eq rfl rfl, by rw [u_nj (by omega), u_nj (by omega), u_nj (by omega), u_nc (by omega)]; exact b3.2.1, by rw [u_nj (by omega), u_nj (by omega)]; exact u_eq rfl rfl, by rw [u_nj (by omega)]; exact u_eq rfl rfl⟩
            have m4 : ∀ q, w0 ≤ q → q < w0 + k → up2 (up2 (up2 (up2 μ2 19 c (nI (S + e.1.length))) 0 23 (nI (w0 + k))) 0 24 (nI (o + k))) 0 12 (nI (j + 1)) 21 q = 33 := fun q q1 q2 => by
              rw [u_nc (by omega), u_nc (by omega), u_nc (by omega), u_nc (by omega)]
              exact (b5.2.2.2.2 q (by omega)).trans ((a4.2.2.2.2 q (by omega)).trans (hm q q1 q2))
            have R4 : Rp (up2 (up2 (up2 (up2 μ2 19 c (nI (S + e.1.length))) 0 23 (nI (w0 + k))) 0 24 (nI (o + k))) 0 12 (nI (j + 1)) 20) S e.1 := by
              rw [u_cf (by omega), u_cf (by omega), u_cf (by omega), u_cf (by omega)]
              exact b4
            obtain ⟨μ5, d1, d2, d3, d4⟩ := m_whole (c := c) S4 (by omega) (by omega) (hN.mv F4 (Nat.le_refl _)) m4
            rw [if_pos c3, if_pos c3, lt_e, y23, lt_e, z24, y24, lt_e, z12, nI_1, d1, Option.bind_some]
            exact ⟨n1, μ5, rfl, by omega, d2, (R4.mv (fun q q1 q2 => d3.2.2.2.1 q q2)).app d4, F4.tr d3 (Nat.le_refl _) (by omega) (Nat.le_refl _) (by omega)⟩
          · rw [if_neg c3, if_neg c3]
            exact ⟨_, rfl, (u_nc (by omega)).trans b3.1, F3⟩
      · rw [if_neg c2]
        exact tst i w0 k o S μ n G hi h hS hw hN hm hn c1 c2
