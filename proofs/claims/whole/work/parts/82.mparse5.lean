/-! the reference reads a whole text into its tables -/
theorem GM.fin {g : Nat → Nat} {μ : Mm} (G : GM g μ) {j : Nat} (hj : ∀ L, (∀ i, L ≤ i → g i = 200) → j ≤ L) (h : μ 0 12 = nI j) : (μ 0 12 = μ 0 11) = (g j = 200) := by
  obtain ⟨L, tx, g1, g2, g3, g4⟩ := G
  have hL : ∀ i, L ≤ i → g i = 200 := fun i hi => by
    rw [g4 i]
    unfold sgn
    rw [if_neg (by omega)]
  have jl := hj L hL
  rw [h, g2, nI_eqP (by omega) (by omega), g4 j]
  unfold sgn
  by_cases c : j < L
  · have := (g3 j c).1
    rw [if_pos c]
    exact propext ⟨fun q => by omega, fun q => by omega⟩
  · rw [if_neg c]
    exact propext ⟨fun _ => rfl, fun _ => by omega⟩
def FL (f q S : Nat) (μ μ1 : Mm) : Prop := (∀ x, x ≠ 0 → (x < 15 ∨ 21 < x) → μ1 x = μ x) ∧ (∀ j, (j ≠ 12 ∧ j ≠ 13 ∧ j ≠ 22 ∧ j ≠ 23 ∧ j ≠ 24) → μ1 0 j = μ 0 j) ∧ (∀ p, p ≠ f → μ1 15 p = μ 15 p) ∧ (∀ x, 16 ≤ x → x ≤ 19 → ∀ p, p < 10 * f + q → μ1 x p = μ x p) ∧ ∀ p, p < S → μ1 20 p = μ 20 p
theorem FL.rf {f q S : Nat} {μ : Mm} : FL f q S μ μ := ⟨fun _ _ _ => rfl, fun _ _ => rfl, fun _ _ => rfl, fun _ _ _ _ _ => rfl, fun _ _ => rfl⟩
theorem FL.tr {f q S q2 S2 : Nat} {μ μ1 μ2 : Mm} (h1 : FL f q S μ μ1) (h2 : FL f q2 S2 μ1 μ2) (a : q ≤ q2) (b : S ≤ S2) : FL f q S μ μ2 := ⟨fun x y z => (h2.1 x y z).trans (h1.1 x y z), fun j y => (h2.2.1 j y).trans (h1.2.1 j y), fun p y => (h2.2.2.1 p y).trans (h1.2.2.1 p y), fun x y z p w => (h2.2.2.2.1 x y z p (by omega)).trans (h1.2.2.2.1 x y z p w), fun p y => (h2.2.2.2.2 p (by omega)).trans (h1.2.2.2.2 p y)⟩
theorem FL.fc {f q S C : Nat} {μ μ1 : Mm} (h : FC C S μ μ1) (hC : 10 * f + q ≤ C) : FL f q S μ μ1 := ⟨fun x y z => h.1 x y (by omega), h.2.1, fun p _ => by rw [h.1 15 (by omega) (by omega)], fun x y z p w => h.2.2.1 x y z p (by omega), h.2.2.2⟩
theorem FL.u15 {f q S : Nat} {μ : Mm} {v : Int32} : FL f q S μ (up2 μ 15 f v) := ⟨fun x y z => u_cf (by omega), fun j _ => u_nc (by omega), fun p hp => u_nj hp, fun x y z p _ => u_nc (by omega), fun p _ => u_nc (by omega)⟩
theorem FL.u0 {f q S j : Nat} {μ : Mm} {v : Int32} (hj : j = 12 ∨ j = 22) : FL f q S μ (up2 μ 0 j v) := ⟨fun x y z => u_cf y, fun k hk => u_nj (by omega), fun p hp => u_nc (by omega), fun x y z p _ => u_nc (by omega), fun p _ => u_nc (by omega)⟩
theorem FL.g {f q S : Nat} {g : Nat → Nat} {μ μ1 : Mm} (h : FL f q S μ μ1) (G : GM g μ) : GM g μ1 := G.mv (h.1 14 (by omega) (by omega)) (h.2.1 11 (by omega))
theorem FL.l {f q S : Nat} {μ μ1 : Mm} (h : FL f q S μ μ1) (G : LT μ) : LT μ1 := fun i hi => by rw [h.1 25 (by omega) (by omega)]; exact G i hi
def sml : List Cl → Nat
  | [] => 0
  | c :: cs => c.2.2.1.length + sml cs
def TS : Nat → List Cl → Nat → Mm → Prop
  | _, [], _, _ => True
  | C, c :: cs, a, μ => TB C c a μ ∧ TS (C + 1) cs (a + c.2.2.1.length) μ
theorem TS.mv : ∀ {cs : List Cl} {C a : Nat} {μ μ1 : Mm}, TS C cs a μ → (∀ x, 16 ≤ x → x ≤ 19 → ∀ q, C ≤ q → q < C + cs.length → μ1 x q = μ x q) → (∀ q, a ≤ q → q < a + sml cs → μ1 20 q = μ 20 q) → TS C cs a μ1
  | [], _, _, _, _, _, _, _ => trivial
  | c :: cs, C, a, μ, μ1, h, h1, h2 => by
    have hl : (c :: cs).length = cs.length + 1 := rfl
    have hs : sml (c :: cs) = c.2.2.1.length + sml cs := rfl
    exact ⟨h.1.mv (fun x a b => h1 x a b C (Nat.le_refl _) (by omega)) (fun q a b => h2 q a (by omega)), TS.mv h.2 (fun x a b q c d => h1 x a b q (by omega) (by omega)) (fun q a b => h2 q (by omega) (by omega))⟩
def gR (f n q : Nat) (μ9 : Mm) : Option (Int32 × Mm) := (if (μ9 0 12) = (μ9 0 11) then some (1, μ9) else (if nI q = 10 then K0 μ9 else (F_M_takes 59 μ9).bind fun p_ => match p_ with | (v10, μ11) => (if v10 = 0 then K0 μ11 else L_M_goesText_15 (nI f) K0 n (nI q) μ11)))
def GQ (f q S : Nat) (μ : Mm) (res : Option (Int32 × Mm)) (P : Nat ⊕ List Cl) : Prop := match P with
  | .inl p => ∃ μ1, res = some (0, μ1) ∧ μ1 0 12 = nI p ∧ FL f q S μ μ1
  | .inr cs => ∃ μ1, res = some (1, μ1) ∧ FL f q S μ μ1 ∧ μ1 15 f = nI (q + cs.length) ∧ TS (10 * f + q) cs S μ1
theorem m_goStep {g : Nat → Nat} {f n q i S : Nat} {μ : Mm} (hf : f ≤ 5) (hq : q < 10) (G : GM g μ) (hl : LT μ) (hi : i ≤ 100) (h12 : μ 0 12 = nI i) (h22 : μ 0 22 = nI S) (hS : S ≤ 100 * f + i) : match pC g i with
  | .inl p => ∃ μ1, L_M_goesText_15 (nI f) K0 (n + 1) (nI q) μ = some (0, μ1) ∧ μ1 0 12 = nI p ∧ FL f q S μ μ1
  | .inr (c, j) => ∃ μ1, L_M_goesText_15 (nI f) K0 (n + 1) (nI q) μ = gR f n (q + 1) μ1 ∧ μ1 0 12 = nI j ∧ μ1 0 22 = nI (S + c.2.2.1.length) ∧ TB (10 * f + q) c S μ1 ∧ μ1 15 f = nI (q + 1) ∧ FL f q S μ μ1 := by
  have T := m_clause (C := 10 * f + q) (B := 100 * f) (by omega) (by omega) G hl hi h12 h22 hS
  have eC : 10 * nI f + nI q = nI (10 * f + q) := by rw [q10, pk_mul, nI_add]
  rw [L_M_goesText_15, eC]
  cases hp : pC g i with
  | inl p =>
    rw [hp] at T
    obtain ⟨μ1, a1, a2, a3⟩ := T
    rw [a1, Option.bind_some]
    exact ⟨μ1, rfl, a2, FL.fc a3 (Nat.le_refl _)⟩
  | inr y =>
    obtain ⟨c, j⟩ := y
    rw [hp] at T
    obtain ⟨μ1, a1, a2, a3, a4, a5⟩ := T
    rw [a1, Option.bind_some]
    refine ⟨up2 μ1 15 f (nI (q + 1)), ?_, (u_nc (by omega)).trans a2, (u_nc (by omega)).trans a3, a4.mv (fun x a b => u_nc (by omega)) (fun p a b => u_nc (by omega)), u_eq rfl rfl, (FL.fc a5 (Nat.le_refl _)).tr FL.u15 (Nat.le_refl _) (Nat.le_refl _)⟩
    show (if (1 : Int32) = 0 then some (0, μ1) else (wrI μ1 15 6 (nI f) (nI q + 1)).bind fun μ9 => (if (μ9 0 12) = (μ9 0 11) then some (1, μ9) else (if (nI q + 1) = 10 then K0 μ9 else (F_M_takes 59 μ9).bind fun p_ => match p_ with | (v10, μ11) => (if v10 = 0 then K0 μ11 else L_M_goesText_15 (nI f) K0 n (nI q + 1) μ11)))) = _
    rw [if_neg one_ne, nI_1, wrI_nI (by omega) (by omega), Option.bind_some]
    rfl
theorem m_gR {g : Nat → Nat} {f : Nat} (hf : f ≤ 5) : ∀ m n q j S μ, q + m = 10 → 0 < q → m < n → GM g μ → LT μ → j ≤ 100 → (∀ L, (∀ i, L ≤ i → g i = 200) → j ≤ L) → μ 0 12 = nI j → μ 0 22 = nI S → S ≤ 100 * f + j → μ 15 f = nI q → GQ f q S μ (gR f n q μ) (pR g m j) := by
  intro m
  induction m with
  | zero =>
    intro n q j S μ hq h0 hn G hl hj hjL h12 h22 hS h15
    show GQ f q S μ (gR f n q μ) (if g j = 200 then .inr [] else .inl j)
    unfold gR
    simp only [G.fin hjL h12]
    by_cases c : g j = 200
    · rw [if_pos c, if_pos c]
      exact ⟨μ, rfl, FL.rf, h15, trivial⟩
    · rw [if_neg c, if_neg c, q10, ite_eq (by omega) (by omega), if_pos (by omega)]
      exact ⟨μ, rfl, h12, FL.rf⟩
  | succ m ih =>
    intro n q j S μ hq h0 hn G hl hj hjL h12 h22 hS h15
    show GQ f q S μ (gR f n q μ) (if g j = 200 then .inr [] else if g j = 59 then (match pC g (j + 1) with
      | .inl p => .inl p
      | .inr (c, j') => cns c (pR g m j')) else .inl j)
    unfold gR
    simp only [G.fin hjL h12]
    by_cases c : g j = 200
    · rw [if_pos c, if_pos c]
      exact ⟨μ, rfl, FL.rf, h15, trivial⟩
    · rw [if_neg c, if_neg c, q10, ite_eq (by omega) (by omega), if_neg (by omega)]
      rcases m_takes (k := 59) (K := 59) G h12 (by omega) (by omega) rfl with ⟨c3, μ1, b1, b2, b3⟩ | ⟨c3, b1⟩
      · have hj1 := G.in c
        obtain ⟨N1, rfl⟩ : ∃ N, n = N + 1 := ⟨n - 1, by omega⟩
        have F1 : FL f q S μ μ1 := FL.fc (C := 10 * f + q) (FC.fn b2) (Nat.le_refl _)
        have T := m_goStep (n := N1) (q := q) (i := j + 1) (S := S) hf (by omega) (F1.g G) (F1.l hl) (by omega) b3 ((b2.2 22 (by omega) (by omega)).trans h22) (by omega)
        rw [b1, Option.bind_some, if_pos c3]
        show GQ f q S μ (if (1 : Int32) = 0 then K0 μ1 else L_M_goesText_15 (nI f) K0 (N1 + 1) (nI q) μ1) _
        rw [if_neg one_ne]
        cases hp : pC g (j + 1) with
        | inl p =>
          rw [hp] at T
          obtain ⟨μ2, a1, a2, a3⟩ := T
          exact ⟨μ2, a1, a2, F1.tr a3 (Nat.le_refl _) (Nat.le_refl _)⟩
        | inr y =>
          obtain ⟨cc, j'⟩ := y
          rw [hp] at T
          obtain ⟨μ2, a1, a2, a3, a4, a5, a6⟩ := T
          obtain ⟨k1, k2, k3, _, _, _, _⟩ := pC_all hTrue G.e hp
          have F2 : FL f q S μ μ2 := F1.tr a6 (Nat.le_refl _) (Nat.le_refl _)
          have V := ih N1 (q + 1) j' (S + cc.2.2.1.length) μ2 (by omega) (by omega) (by omega) (F2.g G) (F2.l hl) k2 (fun L hL => (pC_all hTrue hL hp).2.1) a2 a3 (by omega) a5
          rw [a1]
          show GQ f q S μ _ (cns cc (pR g m j'))
          cases hr : pR g m j' with
          | inl p =>
            rw [hr] at V
            obtain ⟨μ3, d1, d2, d3⟩ := V
            exact ⟨μ3, d1, d2, F2.tr d3 (by omega) (by omega)⟩
          | inr cs =>
            rw [hr] at V
            obtain ⟨μ3, d1, d2, d3, d4⟩ := V
            refine ⟨μ3, d1, F2.tr d2 (by omega) (by omega), ?_, a4.mv (fun x a b => d2.2.2.2.1 x a b _ (by omega)) (fun p a b => d2.2.2.2.2 p b), d4⟩
            show μ3 15 f = nI (q + (cs.length + 1))
            rw [d3, show q + 1 + cs.length = q + (cs.length + 1) by omega]
      · rw [b1, Option.bind_some, if_neg c3]
        exact ⟨μ, rfl, h12, FL.rf⟩
theorem m_gtext {g : Nat → Nat} {f : Nat} (hf : f ≤ 5) {μ : Mm} (G : GM g μ) (hl : LT μ) : GQ f 0 (100 * f) μ (F_M_goesText (nI f) μ) (pX g) := by
  obtain ⟨N, hN⟩ : ∃ N, fu = N + 1 := ⟨99999, rfl⟩
  have hN9 : 9 < N := by have : fu = 100000 := rfl; omega
  have F0 : FL f 0 (100 * f) μ (up2 (up2 μ 0 12 0) 0 22 (nI (100 * f))) := (FL.u0 (by omega)).tr (FL.u0 (by omega)) (Nat.le_refl _) (Nat.le_refl _)
  have T := m_goStep (n := N) (q := 0) (i := 0) (S := 100 * f) (μ := up2 (up2 μ 0 12 0) 0 22 (nI (100 * f))) hf (by omega) (F0.g G) (F0.l hl) (by omega) ((u_nj (by omega)).trans (u_eq rfl rfl)) (u_eq rfl rfl) (by omega)
  have run : F_M_goesText (nI f) μ = L_M_goesText_15 (nI f) K0 (N + 1) (nI 0) (up2 (up2 μ 0 12 0) 0 22 (nI (100 * f))) := by
    unfold F_M_goesText
    rw [lt_e, lt_e, show (100 : Int32) = nI 100 from rfl, pk_mul, hN]
    rfl
  rw [run]
  unfold pX
  cases hp : pC g 0 with
  | inl p =>
    rw [hp] at T
    obtain ⟨μ2, a1, a2, a3⟩ := T
    exact ⟨μ2, a1, a2, F0.tr a3 (Nat.le_refl _) (Nat.le_refl _)⟩
  | inr y =>
    obtain ⟨cc, j'⟩ := y
    rw [hp] at T
    obtain ⟨μ2, a1, a2, a3, a4, a5, a6⟩ := T
    obtain ⟨k1, k2, k3, _, _, _, _⟩ := pC_all hTrue G.e hp
    have F2 : FL f 0 (100 * f) μ μ2 := F0.tr a6 (Nat.le_refl _) (Nat.le_refl _)
    have V := m_gR hf 9 N 1 j' (100 * f + cc.2.2.1.length) μ2 (by omega) (by omega) hN9 (F2.g G) (F2.l hl) k2 (fun L hL => (pC_all hTrue hL hp).2.1) a2 a3 (by omega) a5
    rw [a1]
    show GQ f 0 (100 * f) μ _ (cns cc (pR g 9 j'))
    cases hr : pR g 9 j' with
    | inl p =>
      rw [hr] at V
      obtain ⟨μ3, d1, d2, d3⟩ := V
      exact ⟨μ3, d1, d2, F2.tr d3 (by omega) (by omega)⟩
    | inr cs =>
      rw [hr] at V
      obtain ⟨μ3, d1, d2, d3, d4⟩ := V
      refine ⟨μ3, d1, F2.tr d2 (by omega) (by omega), ?_, a4.mv (fun x a b => d2.2.2.2.1 x a b _ (by omega)) (fun p a b => d2.2.2.2.2 p b), d4⟩
      show μ3 15 f = nI (0 + (cs.length + 1))
      rw [d3, show 1 + cs.length = 0 + (cs.length + 1) by omega]
/-! what the tables say: one E -/
theorem nar_b : ∀ b : Bool, vp_nar .boolean (b2i b) = b2i b := by decide
theorem m_fact {μ : Mm} {p d kd v f : Nat} (hp : p < 6) (hd : d < 6) (hf : f ≤ 5) (e1 : μ 4 p = nI kd) (e2 : μ 5 p = nI v) : F_M_factOf (nI f) (nI p) (nI d) μ = some (nI (en p d kd v f)) := by
  unfold F_M_factOf
  have hr : nI d - nI d / 3 * 3 = nI (d % 3) := nI_remP (a := d) (d := 3) (by omega) (by omega) (by omega)
  have hdv : nI d / 3 = nI (d / 3) := pk_div (a := d) (d := 3) (by omega) (by omega) (by omega)
  rcases (show f = 0 ∨ f = 1 ∨ f = 2 ∨ f = 3 ∨ f = 4 ∨ f = 5 by omega) with rfl | rfl | rfl | rfl | rfl | rfl
  · rw [if_pos (show nI 0 = 0 by decide)]; rfl
  · rw [if_neg (show ¬ nI 1 = 0 by decide), if_pos (show nI 1 = 1 by decide)]; rfl
  · rw [if_neg (show ¬ nI 2 = 0 by decide), if_neg (show ¬ nI 2 = 1 by decide), if_pos (show nI 2 = 2 by decide), rdI_nI hp (by omega), Option.bind_some, e1]; rfl
  · rw [if_neg (show ¬ nI 3 = 0 by decide), if_neg (show ¬ nI 3 = 1 by decide), if_neg (show ¬ nI 3 = 2 by decide), if_pos (show nI 3 = 3 by decide), rdI_nI hp (by omega), Option.bind_some, e2]; rfl
  · rw [if_neg (show ¬ nI 4 = 0 by decide), if_neg (show ¬ nI 4 = 1 by decide), if_neg (show ¬ nI 4 = 2 by decide), if_neg (show ¬ nI 4 = 3 by decide), if_pos (show nI 4 = 4 by decide), hdv]; rfl
  · rw [if_neg (show ¬ nI 5 = 0 by decide), if_neg (show ¬ nI 5 = 1 by decide), if_neg (show ¬ nI 5 = 2 by decide), if_neg (show ¬ nI 5 = 3 by decide), if_neg (show ¬ nI 5 = 4 by decide), hr]; rfl
def QH (e : Er) : Prop := ∀ (C T p d kd v h a n : Nat) (K : Mm → Option (Int32 × Mm)) (μ : Mm), C < 60 → T ≤ 600 → μ 19 C = nI T → a + e.1.length ≤ T → h + e.1.length ≤ 100 → Rp (μ 20) a e.1 → p < 6 → d < 6 → kd ≤ 6 → v ≤ 9 → μ 4 p = nI kd → μ 5 p = nI v → ∃ μ1, L_M_holds_11 (nI C) (nI p) (nI d) K (n + e.1.length) (nI h) (nI a) μ = L_M_holds_11 (nI C) (nI p) (nI d) K n (nI (h + 1)) (nI (a + e.1.length)) μ1 ∧ P26 μ μ1 ∧ (∀ q, q < h → μ1 26 q = μ 26 q) ∧ μ1 26 h = b2i (e.2 (en p d kd v))
theorem QH_t {f s n : Nat} (hf : f ≤ 5) (hs : s ≤ 2) (hn : n ≤ 99) : QH (tT f s n) := by
  intro C T p d kd v h a N K μ hC hT h19 hl hh hR hp hd hk hv e1 e2
  have el : (tT f s n).1.length = 1 := rfl
  rw [el] at hl hh ⊢
  have ec : μ 20 a = nI (1000 * f + 100 * s + n) := by
    have := hR 0 (by rw [el]; omega)
    rw [Nat.add_zero] at this
    rw [this]
    exact cd_s (by show 1000 * f + 100 * s + n < 10000; omega)
  have ne : ¬ nI (1000 * f + 100 * s + n) = -33 := fun q => by
    have h1 := nI_pos' (n := 1000 * f + 100 * s + n) (by omega)
    rw [q] at h1
    exact absurd h1 (by decide)
  have x1 : nI (1000 * f + 100 * s + n) / 1000 = nI f := by
    rw [show (1000 : Int32) = nI 1000 from rfl, pk_div (by omega) (by omega) (by omega), show (1000 * f + 100 * s + n) / 1000 = f by omega]
  have x2 : nI (1000 * f + 100 * s + n) / 100 = nI (10 * f + s) := by
    rw [show (100 : Int32) = nI 100 from rfl, pk_div (by omega) (by omega) (by omega), show (1000 * f + 100 * s + n) / 100 = 10 * f + s by omega]
  have x3 : nI (10 * f + s) - nI (10 * f + s) / 10 * 10 = nI s := by
    rw [q10, nI_remP (by omega) (by omega) (by omega), show (10 * f + s) % 10 = s by omega]
  have x4 : nI (1000 * f + 100 * s + n) - nI (10 * f + s) * 100 = nI n := by
    have := nI_remP (a := 1000 * f + 100 * s + n) (d := 100) (by omega) (by omega) (by omega)
    rw [show (1000 * f + 100 * s + n) % 100 = n by omega] at this
    rw [← x2]
    exact this
  have le := en_le (p := p) (d := d) (kd := kd) (v := v) ⟨hp, hd, hk, hv⟩ f
  have fin : ∀ b : Bool, b = (tT f s n).2 (en p d kd v) → ∃ μ1, ((wrI μ 26 100 (nI h) (vp_nar .boolean (b2i b))).bind fun μ14 => L_M_holds_11 (nI C) (nI p) (nI d) K N (nI h + 1) (nI a + 1) μ14) = L_M_holds_11 (nI C) (nI p) (nI d) K N (nI (h + 1)) (nI (a + 1)) μ1 ∧ P26 μ μ1 ∧ (∀ q, q < h → μ1 26 q = μ 26 q) ∧ μ1 26 h = b2i ((tT f s n).2 (en p d kd v)) := fun b hb => by
    rw [nar_b, wrI_nI (by omega) (by omega), Option.bind_some, nI_1, nI_1]
    exact ⟨_, rfl, fun c hc => u_cf hc, fun q hq => u_nj (by omega), by rw [u_eq rfl rfl, hb]⟩
  rw [L_M_holds_11, rdI_nI hC (by omega), h19, Option.bind_some, ite_le (by omega) (by omega), if_neg (by omega), rdI_nI (by omega) (by omega), ec, Option.bind_some, jn_e, if_neg ne, if_pos (nI_pos' (by omega)), x1, m_fact hp hd hf e1 e2, Option.bind_some, lt_e, jn_e, x2, x3, x4, q0, ite_eq (by omega) (by omega), ite_le (by omega) (by omega), q1, ite_eq (by omega) (by omega), ite_eq (by omega) (by omega), ite_le (by omega) (by omega)]
  have hv' : (tT f s n).2 (en p d kd v) = tv s (en p d kd v f) n := rfl
  rw [hv'] at fin ⊢
  unfold tv at fin ⊢
  by_cases s0 : s = 0
  · rw [if_pos s0] at fin ⊢
    rw [if_pos s0]
    by_cases c : n ≤ en p d kd v f
    · rw [if_pos c]; exact fin false (by rw [decide_eq_false (by omega)])
    · rw [if_neg c]; exact fin true (by rw [decide_eq_true (by omega)])
  · rw [if_neg s0] at fin ⊢
    rw [if_neg s0]
    by_cases s1 : s = 1
    · rw [if_pos s1] at fin ⊢
      rw [if_pos s1]
      by_cases c : en p d kd v f = n
      · rw [if_pos c]; exact fin true (by rw [decide_eq_true c])
      · rw [if_neg c]; exact fin false (by rw [decide_eq_false c])
    · rw [if_neg s1] at fin ⊢
      rw [if_neg s1]
      by_cases c : en p d kd v f ≤ n
      · rw [if_pos c]; exact fin false (by rw [decide_eq_false (by omega)])
      · rw [if_neg c]; exact fin true (by rw [decide_eq_true (by omega)])
