/-! the class reads what must hold -/
def vO (A : Option Er) (e : Nat → Nat) : Bool := match A with
  | none => false
  | some t => t.2 e
theorem aT_v (A : Option Er) (S : Er) (e : Nat → Nat) : (aT A S).2 e = (vO A e || S.2 e) := by
  cases A <;> rfl
theorem bne_f (a : Bool) : (a != false) = a := by cases a <;> rfl
theorem x_eitherE {μ0 μ : Mm} {q : Nat} (h : ERs μ0 q μ) (rec : Int32 → Mm → Option (Int32 × Mm)) (o x : Int32) {n : Nat} (hn : 0 < n) (a c : Bool) : L_Rooms_either_11 rec o etK n (b2i a) (b2i c) x μ = some (b2i (a || c), μ) := by
  obtain ⟨N1, rfl⟩ : ∃ N, n = N + 1 := ⟨n - 1, by omega⟩
  rw [L_Rooms_either_11, jn_e, h.2.2.1, if_neg (show ¬ (-1 : Int32) = 124 by decide), if_neg (show ¬ (-1 : Int32) = 38 by decide), etK_e, ite_self]
theorem x_either {g : Nat → Nat} {μ0 : Mm} (G : GT g μ0) {p d kd v : Nat} (E : EN p d kd v μ0) {r o D : Nat} (sg : ∀ i μ, i ≤ 100 → OKs g μ0 i μ → ∃ b μ1, F_Rooms_single (F_Rooms_either D) (nI o) μ = some (b2i b, μ1) ∧ M3 μ μ1 ∧ Ps g μ0 (pS g r i) (fun e => b = e.2 (en p d kd v)) μ1) {i : Nat} {μ : Mm} (hi : i ≤ 100) (h : OKs g μ0 i μ) : ∃ b μ1, F_Rooms_either (D + 1) (nI o) μ = some (b2i b, μ1) ∧ M3 μ μ1 ∧ Ps g μ0 (pE (pS g r) g i) (fun e => b = e.2 (en p d kd v)) μ1 := by
  have hT : Clo (fun _ => True) := ⟨fun _ _ _ _ _ _ => trivial, fun _ _ => trivial, fun _ _ _ _ => trivial, fun _ _ _ _ => trivial⟩
  have le : ∀ k e j, pS g r k = .inr (e, j) → j ≤ 100 := fun k e j hk => (pS_ok hT G.e r k e j hk).2.1
  have loop : ∀ m n, m < n → ∀ k, k + m = 100 → ∀ x, x = nI k → ∀ A C S a c j μ, j ≤ 100 → OKs g μ0 j μ → a = vO A (en p d kd v) → c = (cT C S).2 (en p d kd v) → ∃ b μ1, L_Rooms_either_11 (F_Rooms_either D) (nI o) etK n (b2i a) (b2i c) x μ = some (b2i b, μ1) ∧ M3 μ μ1 ∧ Ps g μ0 (pL (pS g r) g m A C S j) (fun e => b = e.2 (en p d kd v)) μ1 := by
    intro m
    induction m with
    | zero =>
      intro n hn k hk x hx A C S a c j μ hj h ha hc
      obtain ⟨N1, rfl⟩ : ∃ N, n = N + 1 := ⟨n - 1, by omega⟩
      have e : k = 100 := by omega
      subst e
      subst hx
      rw [L_Rooms_either_11, if_pos (by decide), etK_e]
      exact ⟨_, μ, rfl, M3.rf, (by omega : j ≤ 1000), h, (by show (a || c) = (aT A (cT C S)).2 (en p d kd v); rw [aT_v, ha, hc])⟩
    | succ m ih =>
      intro n hn k hk x hx A C S a c j μ hj h ha hc
      obtain ⟨N1, rfl⟩ : ∃ N, n = N + 1 := ⟨n - 1, by omega⟩
      subst hx
      have ep : pL (pS g r) g (m + 1) A C S j = (if g j = 38 then (match pS g r (j + 1) with
        | .inl p => .inl p
        | .inr (S', j') => pL (pS g r) g m A (some (cT C S)) S' j') else if g j = 124 then (match pS g r (j + 1) with
        | .inl p => .inl p
        | .inr (S', j') => pL (pS g r) g m (some (aT A (cT C S))) none S' j') else .inr (aT A (cT C S), j)) := rfl
      have hg := G.lt j
      rw [L_Rooms_either_11, show (100 : Int32) = nI 100 from rfl, ite_le (by omega) (by omega), if_neg (by omega), jn_e, jn_e, h.2.2.1, ite_s (K := 124) hg (k := 124) (by omega) rfl, ite_s (K := 38) hg (k := 38) (by omega) rfl, ite_s (K := 124) hg (k := 124) (by omega) rfl, ep]
      by_cases c1 : g j = 124
      · have hj' : j < 100 := Nat.lt_of_not_le (fun q => by rw [G.e j q] at c1; omega)
        obtain ⟨μ1, s1, s2, s3⟩ := h.steps G (by omega)
        obtain ⟨b', μ2, t1, t2, t3⟩ := sg (j + 1) μ1 (by omega) s2
        rw [if_pos c1, if_neg (show ¬ g j = 38 by omega), if_pos c1, if_pos c1, s1]
        simp only [Option.bind_some, t1, jn_e, ei_or, if_neg one_ne]
        cases hp : pS g r (j + 1) with
        | inl q =>
          rw [hp] at t3
          rw [x_eitherE t3.2 _ _ _ (by omega)]
          exact ⟨_, μ2, rfl, s3.tr t2, t3⟩
        | inr y =>
          obtain ⟨S', j'⟩ := y
          rw [hp] at t3
          obtain ⟨t4, t5, t6⟩ := t3
          obtain ⟨b, μ3, u1, u2, u3⟩ := ih N1 (by omega) (k + 1) (by omega) (nI k + 1) (nI_1 k) (some (aT A (cT C S))) none S' (a || c) b' j' μ2 (le _ _ _ hp) t5 (by show _ = (aT A (cT C S)).2 _; rw [aT_v, ha, hc]) t6
          exact ⟨b, μ3, u1, (s3.tr t2).tr u2, u3⟩
      · rw [if_neg c1]
        by_cases c2 : g j = 38
        · have hj' : j < 100 := Nat.lt_of_not_le (fun q => by rw [G.e j q] at c2; omega)
          obtain ⟨μ1, s1, s2, s3⟩ := h.steps G (by omega)
          obtain ⟨b', μ2, t1, t2, t3⟩ := sg (j + 1) μ1 (by omega) s2
          rw [if_pos c2, if_neg c1, if_pos c2, s1]
          simp only [Option.bind_some, t1, jn_e, ei_and, eq_self]
          cases hp : pS g r (j + 1) with
          | inl q =>
            rw [hp] at t3
            rw [x_eitherE t3.2 _ _ _ (by omega)]
            exact ⟨_, μ2, rfl, s3.tr t2, t3⟩
          | inr y =>
            obtain ⟨S', j'⟩ := y
            rw [hp] at t3
            obtain ⟨t4, t5, t6⟩ := t3
            obtain ⟨b, μ3, u1, u2, u3⟩ := ih N1 (by omega) (k + 1) (by omega) (nI k + 1) (nI_1 k) A (some (cT C S)) S' a (c && b') j' μ2 (le _ _ _ hp) t5 ha (by show _ = ((cT C S).2 _ && S'.2 _); rw [hc, t6])
            exact ⟨b, μ3, u1, (s3.tr t2).tr u2, u3⟩
        · rw [if_neg c2, if_neg c2, if_neg c1, etK_e]
          exact ⟨_, μ, rfl, M3.rf, (by omega : j ≤ 1000), h, (by show (a || c) = (aT A (cT C S)).2 (en p d kd v); rw [aT_v, ha, hc])⟩
  obtain ⟨b, μ1, a1, a2, a3⟩ := sg i μ hi h
  rw [F_Rooms_either]
  unfold B_Rooms_either pE
  rw [a1, Option.bind_some]
  cases hp : pS g r i with
  | inl q =>
    rw [hp] at a3
    have := x_eitherE a3.2 (F_Rooms_either D) (nI o) 0 (n := fu) (fu_gt (by omega)) false b
    exact ⟨_, μ1, this, a2, a3⟩
  | inr y =>
    obtain ⟨S', j'⟩ := y
    rw [hp] at a3
    obtain ⟨t4, t5, t6⟩ := a3
    obtain ⟨b2, μ3, u1, u2, u3⟩ := loop 100 fu (fu_gt (by omega)) 0 (by omega) 0 rfl none none S' false b j' μ1 (le _ _ _ hp) t5 rfl t6
    exact ⟨b2, μ3, u1, a2.tr u2, u3⟩
theorem x_singleL {g : Nat → Nat} {μ0 : Mm} (G : GT g μ0) {p d kd v : Nat} (E : EN p d kd v μ0) : ∀ r o D n i nt μ, o + r = 4 → r < D → r < n → i ≤ 100 → OKs g μ0 i μ → ∃ b μ1, L_Rooms_single_4 (F_Rooms_either D) (sgK (F_Rooms_either D)) n (nI o) (b2i nt) μ = some (b2i b, μ1) ∧ M3 μ μ1 ∧ Ps g μ0 (pS g r i) (fun e => b = (e.2 (en p d kd v) != nt)) μ1 := by
  have hT : Clo (fun _ => True) := ⟨fun _ _ _ _ _ _ => trivial, fun _ _ => trivial, fun _ _ _ _ => trivial, fun _ _ _ _ => trivial⟩
  intro r
  induction r with
  | zero =>
    intro o D n i nt μ ho hD hn hi h
    obtain ⟨N1, rfl⟩ : ∃ N, n = N + 1 := ⟨n - 1, by omega⟩
    rw [L_Rooms_single_4, q4, ite_le (by omega) (by omega), if_pos (show 4 ≤ o by omega), ite_self]
    exact sgK_t G E _ (by omega) h (by omega) (fun _ => by omega)
  | succ r ih =>
    intro o D n i nt μ ho hD hn hi h
    obtain ⟨N1, rfl⟩ : ∃ N, n = N + 1 := ⟨n - 1, by omega⟩
    have hg := G.lt i
    have ep : pS g (r + 1) i = (if g i = 33 then (match pS g r (i + 1) with
      | .inl p => .inl p
      | .inr (e, j) => .inr (nT e, j)) else if g i = 40 then (match pE (pS g r) g (i + 1) with
      | .inl p => .inl p
      | .inr (e, j) => if g j = 41 then .inr (e, j + 1) else .inl j) else pT g i) := rfl
    rw [L_Rooms_single_4, h.2.2.1, ite_s (K := 33) hg (k := 33) (by omega) rfl, ep]
    by_cases c1 : g i = 33
    · have hj' : i < 100 := Nat.lt_of_not_le (fun q => by rw [G.e i q] at c1; omega)
      obtain ⟨μ1, s1, s2, s3⟩ := h.steps G (by omega)
      rw [if_pos c1, if_pos c1, q4, ite_le (by omega) (by omega), if_neg (by omega), jn_e]
      obtain ⟨b, μ2, t1, t2, t3⟩ := ih (o + 1) D N1 (i + 1) (!nt) μ1 (by omega) (by omega) (by omega) (by omega) s2
      have fin : ∃ b μ2, L_Rooms_single_4 (F_Rooms_either D) (sgK (F_Rooms_either D)) N1 (nI o + 1) (b2i (!nt)) μ1 = some (b2i b, μ2) ∧ M3 μ μ2 ∧ Ps g μ0 (match pS g r (i + 1) with
        | .inl p => .inl p
        | .inr (e, j) => .inr (nT e, j)) (fun e => b = (e.2 (en p d kd v) != nt)) μ2 := by
        refine ⟨b, μ2, by rw [nI_1]; exact t1, s3.tr t2, ?_⟩
        cases hp : pS g r (i + 1) with
        | inl q => rw [hp] at t3; exact t3
        | inr y =>
          obtain ⟨e, j⟩ := y
          rw [hp] at t3
          obtain ⟨t4, t5, t6⟩ := t3
          refine ⟨t4, t5, ?_⟩
          show b = ((!e.2 (en p d kd v)) != nt)
          rw [show b = (e.2 (en p d kd v) != !nt) from t6]
          cases e.2 (en p d kd v) <;> cases nt <;> rfl
      cases nt
      · rw [if_pos (show b2i false = 0 from rfl), s1]
        exact fin
      · rw [if_neg (show ¬ b2i true = 0 by decide), s1]
        exact fin
    · rw [if_neg c1, if_neg c1]
      by_cases c2 : g i = 40
      · have hj' : i < 100 := Nat.lt_of_not_le (fun q => by rw [G.e i q] at c2; omega)
        obtain ⟨μ1, s1, s2, s3⟩ := h.steps G (by omega)
        obtain ⟨D', rfl⟩ : ∃ N, D = N + 1 := ⟨D - 1, by omega⟩
        obtain ⟨b, μ2, t1, t2, t3⟩ := x_either G E (r := r) (o := o + 1) (D := D') (fun i μ hi h => by
          obtain ⟨b, μ1, a1, a2, a3⟩ := ih (o + 1) D' fu i false μ (by omega) (by omega) (fu_gt (by omega)) hi h
          refine ⟨b, μ1, a1, a2, ?_⟩
          cases hp : pS g r i with
          | inl q => rw [hp] at a3; exact a3
          | inr y =>
            obtain ⟨e, j⟩ := y
            rw [hp] at a3
            obtain ⟨t4, t5, t6⟩ := a3
            exact ⟨t4, t5, t6.trans (bne_f _)⟩) (i := i + 1) (by omega) s2
        unfold sgK
        rw [jn_e, h.2.2.1, ite_s (K := 40) hg (k := 40) (by omega) rfl, if_pos c2, if_pos c2, q4, ite_le (by omega) (by omega), if_neg (by omega), s1, Option.bind_some, nI_1, t1, Option.bind_some]
        simp only []
        cases hp : pE (pS g r) g (i + 1) with
        | inl q =>
          rw [hp] at t3
          obtain ⟨μ3, u1, u2, u3⟩ := x_expE (k := 41) (K := 41) t3.1 t3.2 (by omega) rfl
          rw [u1, Option.bind_some, ite_bb]
          exact ⟨_, μ3, rfl, (s3.tr t2).tr u2, t3.1, u3⟩
        | inr y =>
          obtain ⟨e, j⟩ := y
          rw [hp] at t3
          obtain ⟨t4, t5, t6⟩ := t3
          have hj := (pE_ok hT G.e (fun i e j h => pS_ok hT G.e r i e j h) hp).2.1
          obtain ⟨μ3, u1, u2, u3⟩ := x_exp (k := 41) (K := 41) G (by omega) t5 (by omega) rfl
          rw [u1, Option.bind_some, ite_bb]
          refine ⟨_, μ3, rfl, (s3.tr t2).tr u2, ?_⟩
          rcases u3 with ⟨c3, u3⟩ | ⟨c3, u3⟩
          · show Ps g μ0 (if g j = 41 then .inr (e, j + 1) else .inl j) _ μ3
            rw [if_pos c3]
            exact ⟨(by omega : j + 1 ≤ 1000), u3, by rw [show b = e.2 (en p d kd v) from t6]⟩
          · show Ps g μ0 (if g j = 41 then .inr (e, j + 1) else .inl j) _ μ3
            rw [if_neg c3]
            exact ⟨t4, u3⟩
      · rw [if_neg c2]
        exact sgK_t G E _ (by omega) h (by omega) (fun q => absurd q c2)
theorem x_either8 {g : Nat → Nat} {μ0 : Mm} (G : GT g μ0) {p d kd v : Nat} (E : EN p d kd v μ0) {i : Nat} {μ : Mm} (hi : i ≤ 100) (h : OKs g μ0 i μ) : ∃ b μ1, F_Rooms_either 8 0 μ = some (b2i b, μ1) ∧ M3 μ μ1 ∧ Ps g μ0 (pE (pS g 4) g i) (fun e => b = e.2 (en p d kd v)) μ1 :=
  x_either G E (r := 4) (o := 0) (D := 7) (fun i μ hi h => by
    obtain ⟨b, μ1, a1, a2, a3⟩ := x_singleL G E 4 0 7 fu i false μ (by omega) (by omega) (fu_gt (by omega)) hi h
    refine ⟨b, μ1, a1, a2, ?_⟩
    cases hp : pS g 4 i with
    | inl q => rw [hp] at a3; exact a3
    | inr y =>
      obtain ⟨e, j⟩ := y
      rw [hp] at a3
      obtain ⟨t4, t5, t6⟩ := a3
      exact ⟨t4, t5, t6.trans (bne_f _)⟩) hi h
theorem x_either8E {μ0 μ : Mm} {q : Nat} (hq : q ≤ 1000) (h : ERs μ0 q μ) : ∃ b μ1, F_Rooms_either 8 0 μ = some (b2i b, μ1) ∧ M3 μ μ1 ∧ ERs μ0 q μ1 := by
  obtain ⟨b, μ1, a1, a2, a3⟩ := sgK_E hq h (F_Rooms_either 7) 0 false
  have e : F_Rooms_single (F_Rooms_either 7) 0 μ = some (b2i b, μ1) := by
    show L_Rooms_single_4 (F_Rooms_either 7) (sgK (F_Rooms_either 7)) fu 0 (b2i false) μ = _
    obtain ⟨N, hN⟩ : ∃ N, fu = N + 1 := ⟨99999, rfl⟩
    rw [hN, L_Rooms_single_4, h.2.2.1, if_neg (show ¬ (-1 : Int32) = 33 by decide)]
    exact a1
  rw [F_Rooms_either]
  unfold B_Rooms_either
  rw [e, Option.bind_some]
  exact ⟨_, μ1, x_eitherE a3 (F_Rooms_either 7) 0 0 (n := fu) (fu_gt (by omega)) false b, a2, a3⟩
