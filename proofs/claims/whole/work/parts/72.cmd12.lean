/-! few: changes of two -/
def swf (f : Nat → Nat) (a b : Nat) : Nat → Nat := fun j => if j = b then f a else if j = a then f b else f j
theorem swf2 {f : Nat → Nat} {a b : Nat} : swf (swf f a b) a b = f := by
  funext j
  show (if j = b then (if a = b then f a else if a = a then f b else f a) else if j = a then (if b = b then f a else if b = a then f b else f b) else (if j = b then f a else if j = a then f b else f j)) = f j
  repeat' split
  all_goals first | rfl | omega | exact absurd trivial ‹¬True› | (congr 1; done) | (congr 1; omega)
theorem swf_le {f : Nat → Nat} {a b : Nat} (h : ∀ q, f q ≤ 5) (q : Nat) : swf f a b q ≤ 5 := by
  have := h a
  have := h b
  have := h q
  unfold swf
  split
  · omega
  · split <;> omega
/-- one with a greater b goes behind one with a lesser -/
theorem swf_gt {f : Nat → Nat} {a b c d : Nat} (hab : a < b) (hcd : c < d) (hdb : d < b) : swf (swf f a b) c d = swf (swf f c d) (if a = c then d else if a = d then c else a) b := by
  funext j
  show (if j = d then (if c = b then f a else if c = a then f b else f c) else if j = c then (if d = b then f a else if d = a then f b else f d) else (if j = b then f a else if j = a then f b else f j)) = (if j = b then (if (if a = c then d else if a = d then c else a) = d then f c else if (if a = c then d else if a = d then c else a) = c then f d else f (if a = c then d else if a = d then c else a)) else if j = (if a = c then d else if a = d then c else a) then (if b = d then f c else if b = c then f d else f b) else (if j = d then f c else if j = c then f d else f j))
  by_cases h1 : a = c
  · simp only [if_pos h1]
    repeat' split
    all_goals first | rfl | omega | exact absurd trivial ‹¬True› | (congr 1; done) | (congr 1; omega)
  · simp only [if_neg h1]
    by_cases h2 : a = d
    · simp only [if_pos h2]
      repeat' split
      all_goals first | rfl | omega | exact absurd trivial ‹¬True› | (congr 1; done) | (congr 1; omega)
    · simp only [if_neg h2]
      repeat' split
      all_goals first | rfl | omega | exact absurd trivial ‹¬True› | (congr 1; done) | (congr 1; omega)
/-- two with the same b -/
theorem swf_eq {f : Nat → Nat} {a b c : Nat} (hab : a < b) (hcb : c < b) (hac : a ≠ c) : swf (swf f a b) c b = swf (swf f (min a c) (max a c)) a b := by
  funext j
  rcases Nat.lt_or_ge a c with h | h
  · rw [Nat.min_eq_left (by omega), Nat.max_eq_right (by omega)]
    show (if j = b then (if c = b then f a else if c = a then f b else f c) else if j = c then (if b = b then f a else if b = a then f b else f b) else (if j = b then f a else if j = a then f b else f j)) = (if j = b then (if a = c then f a else if a = a then f c else f a) else if j = a then (if b = c then f a else if b = a then f c else f b) else (if j = c then f a else if j = a then f c else f j))
    repeat' split
    all_goals first | rfl | omega | exact absurd trivial ‹¬True› | (congr 1; done) | (congr 1; omega)
  · rw [Nat.min_eq_right (by omega), Nat.max_eq_left (by omega)]
    show (if j = b then (if c = b then f a else if c = a then f b else f c) else if j = c then (if b = b then f a else if b = a then f b else f b) else (if j = b then f a else if j = a then f b else f j)) = (if j = b then (if a = a then f c else if a = c then f a else f a) else if j = a then (if b = a then f c else if b = c then f a else f b) else (if j = a then f c else if j = c then f a else f j))
    repeat' split
    all_goals first | rfl | omega | exact absurd trivial ‹¬True› | (congr 1; done) | (congr 1; omega)
/-- two changes: nothing, or two with rising greater numbers -/
theorem two_rise {a b c d : Nat} (hab : a < b) (hcd : c < d) : (∀ f, swf (swf f a b) c d = f) ∨ ∃ x y z w, x < y ∧ z < w ∧ y < w ∧ w = max b d ∧ ∀ f, swf (swf f a b) c d = swf (swf f x y) z w := by
  rcases Nat.lt_trichotomy b d with h | h | h
  · exact Or.inr ⟨a, b, c, d, hab, hcd, h, (by omega), fun f => rfl⟩
  · subst h
    by_cases hac : a = c
    · subst hac
      exact Or.inl fun f => swf2
    · exact Or.inr ⟨min a c, max a c, a, b, by omega, hab, by omega, by omega, fun f => swf_eq hab hcd hac⟩
  · refine Or.inr ⟨c, d, if a = c then d else if a = d then c else a, b, hcd, ?_, h, by omega, fun f => swf_gt hab hcd h⟩
    split
    · omega
    · split <;> omega
def QX (v : (Nat → Nat) → Prop) (P : Nat) : Nat → Nat → (Nat → Nat) → Prop
  | 0, _, f => v f
  | k + 1, m, f => ∃ b a, m ≤ b ∧ b < P ∧ a < b ∧ QX v P k (b + 1) (swf f a b)
def QM (v : (Nat → Nat) → Prop) (P : Nat) : Nat → (Nat → Nat) → Prop
  | 0, f => v f
  | k + 1, f => ∃ b a, a < b ∧ b < P ∧ QM v P k (swf f a b)
theorem QX_QM {v : (Nat → Nat) → Prop} {P : Nat} : ∀ k m f, QX v P k m f → QM v P k f
  | 0, _, _, h => h
  | k + 1, m, f, ⟨b, a, _, h2, h3, h4⟩ => ⟨b, a, h3, h2, QX_QM k (b + 1) _ h4⟩
theorem q_one {v : (Nat → Nat) → Prop} {P : Nat} {f : Nat → Nat} : QX v P 1 1 f ↔ QM v P 1 f :=
  ⟨QX_QM 1 1 f, fun ⟨b, a, h1, h2, h3⟩ => ⟨b, a, by omega, h2, h1, h3⟩⟩
theorem q_two {v : (Nat → Nat) → Prop} {P : Nat} {f : Nat → Nat} : ((2 ≤ P ∧ v f) ∨ QX v P 2 1 f) ↔ QM v P 2 f := by
  constructor
  · rintro (⟨h1, h2⟩ | h)
    · refine ⟨1, 0, by omega, by omega, 1, 0, by omega, by omega, ?_⟩
      show v (swf (swf f 0 1) 0 1)
      rw [swf2]
      exact h2
    · exact QX_QM 2 1 f h
  · rintro ⟨b, a, h1, h2, d, c, h3, h4, h5⟩
    have h5' : v (swf (swf f a b) c d) := h5
    rcases two_rise h1 h3 with h | ⟨x, y, z, w, i1, i2, i3, i4, i5⟩
    · rw [h] at h5'
      exact Or.inl ⟨by omega, h5'⟩
    · rw [i5] at h5'
      exact Or.inr ⟨y, x, by omega, by omega, i1, w, z, by omega, by omega, i2, h5'⟩
theorem q_three {v : (Nat → Nat) → Prop} {P : Nat} {f : Nat → Nat} (h1 : ¬ QM v P 1 f) : QX v P 3 1 f ↔ QM v P 3 f := by
  refine ⟨QX_QM 3 1 f, ?_⟩
  rintro ⟨b, a, a1, a2, d, c, a3, a4, e, g, a5, a6, a7⟩
  have a7' : v (swf (swf (swf f a b) c d) g e) := a7
  rcases two_rise a1 a3 with h | ⟨x, y, z, w, i1, i2, i3, i4, i5⟩
  · rw [h] at a7'
    exact absurd ⟨e, g, a5, a6, a7'⟩ h1
  · rw [i5] at a7'
    rcases two_rise i2 a5 with h | ⟨x', y', z', w', j1, j2, j3, j4, j5⟩
    · rw [h] at a7'
      exact absurd ⟨y, x, i1, by omega, a7'⟩ h1
    · rw [j5] at a7'
      rcases two_rise i1 j1 with h | ⟨x2, y2, z2, w2, k1, k2, k3, k4, k5⟩
      · rw [h] at a7'
        exact absurd ⟨w', z', j2, by omega, a7'⟩ h1
      · rw [k5] at a7'
        exact ⟨y2, x2, by omega, by omega, k1, w2, z2, by omega, by omega, k2, w', z', by omega, by omega, j2, a7'⟩
/-! told by numbers in base 36 -/
def opr (P N : Nat) : Bool := decide (N % 36 / 6 < N % 36 % 6) && decide (N % 36 % 6 < P)
def oks (P : Nat) : Nat → Nat → Bool
  | 0, _ => true
  | k + 1, N => opr P N && oks P k (N / 36)
def erow : Nat → Nat → (Nat → Nat) → Nat → Nat
  | 0, _, f => f
  | k + 1, N, f => erow k (N / 36) (swf f (N % 36 / 6) (N % 36 % 6))
theorem erow_le : ∀ k N f, (∀ q, f q ≤ 5) → ∀ q, erow k N f q ≤ 5
  | 0, _, _, h => h
  | k + 1, N, f, h => erow_le k (N / 36) _ (swf_le h)
theorem QM_num {v : (Nat → Nat) → Prop} {P : Nat} (hP : P ≤ 6) : ∀ k f, QM v P k f ↔ ∃ N, N < 36 ^ k ∧ oks P k N = true ∧ v (erow k N f)
  | 0, f => ⟨fun h => ⟨0, by decide, rfl, h⟩, fun ⟨_, _, _, h⟩ => h⟩
  | k + 1, f => by
    constructor
    · rintro ⟨b, a, h1, h2, h3⟩
      obtain ⟨N, n1, n2, n3⟩ := (QM_num hP k _).mp h3
      refine ⟨N * 36 + (6 * a + b), ?_, ?_, ?_⟩
      · rw [Nat.pow_succ]
        omega
      · show (opr P (N * 36 + (6 * a + b)) && oks P k ((N * 36 + (6 * a + b)) / 36)) = true
        rw [show (N * 36 + (6 * a + b)) / 36 = N by omega, n2]
        unfold opr
        rw [decide_eq_true (by omega), decide_eq_true (by omega)]
        rfl
      · show v (erow k ((N * 36 + (6 * a + b)) / 36) (swf f ((N * 36 + (6 * a + b)) % 36 / 6) ((N * 36 + (6 * a + b)) % 36 % 6)))
        rw [show (N * 36 + (6 * a + b)) / 36 = N by omega, show (N * 36 + (6 * a + b)) % 36 / 6 = a by omega, show (N * 36 + (6 * a + b)) % 36 % 6 = b by omega]
        exact n3
    · rintro ⟨N, n1, n2, n3⟩
      obtain ⟨o1, o2⟩ := (Bool.and_eq_true _ _).mp n2
      obtain ⟨o3, o4⟩ := (Bool.and_eq_true _ _).mp o1
      refine ⟨N % 36 % 6, N % 36 / 6, of_decide_eq_true o3, of_decide_eq_true o4, (QM_num hP k _).mpr ⟨N / 36, ?_, o2, n3⟩⟩
      rw [Nat.pow_succ] at n1
      omega

def vq (q : Nat) (s : Sg) (f : Nat → Nat) : Prop := ns (row s 3 f) 0 ≤ q
theorem swap_row {s : Sg} {f : Nat → Nat} {a b : Nat} : swap (row s 3 f) a b = row s 3 (swf f a b) := by
  unfold swap
  rw [row_row]
  rfl
theorem XA.swap {s : Sg} {f : Nat → Nat} {μ0 μ : Mm} (A : XA s f μ0 μ) {a b : Nat} (ha : a < 6) (hb : b < 6) : ∃ μ1, F_Seat_swaps 60 (nI a) (nI b) μ = some μ1 ∧ XA s (swf f a b) μ0 μ1 := by
  obtain ⟨μ1, e, h1, h2⟩ := x_swaps A.1 ha hb
  rw [swap_row] at h1
  exact ⟨μ1, e, h1, swf_le A.2.1, fun c c1 c2 => (h2 c c2).trans (A.2.2 c c1 c2)⟩
theorem calmX {q : Nat} {s : Sg} (B : BW s) (hq : q ≤ 999) {μ0 : Mm} : ∀ k, k ≤ 3 → ∀ D m f μ, k < D → m ≤ 6 → XA s f μ0 μ → ∃ c μ1, F_BT_calmsBy D 60 (nI k) (nI m) (nI q) μ = some (b2i c, μ1) ∧ XA s f μ0 μ1 ∧ (c = true ↔ QX (vq q s) (s 0 0) k m f) := by
  have h66 := B.1
  intro k
  induction k with
  | zero =>
    intro _ D m f μ hD hm A
    obtain ⟨D1, rfl⟩ : ∃ N, D = N + 1 := ⟨D - 1, by omega⟩
    have B1 : BW (row s 3 f) := BW_row3 B A.2.1
    have l1 := ns_le B1 0
    have xn : F_Seat_noise 60 0 μ = some (nI (ns (row s 3 f) 0)) := x_noise A.1 B1 (t := 0) (by omega)
    rw [F_BT_calmsBy]
    unfold B_BT_calmsBy
    rw [if_neg (show ¬ 0 < nI 0 by decide), xn, Option.bind_some, ite_lt (by omega) (by omega)]
    by_cases c : q < ns (row s 3 f) 0
    · rw [if_pos c]
      exact ⟨false, μ, rfl, A, ⟨fun h => absurd h (by decide), fun h => absurd (show ns (row s 3 f) 0 ≤ q from h) (by omega)⟩⟩
    · rw [if_neg c]
      exact ⟨true, μ, rfl, A, ⟨fun _ => (show ns (row s 3 f) 0 ≤ q by omega), fun _ => rfl⟩⟩
  | succ k ih =>
    intro hk D m f μ hD hm A
    obtain ⟨D1, rfl⟩ : ∃ N, D = N + 1 := ⟨D - 1, by omega⟩
    have inner : ∀ (b : Nat), b < s 0 0 → ∀ (kk : Mm → Option (Int32 × Mm)) d a, a + d = b → ∀ n, d < n → ∀ x, x = nI a → ∀ μ, XA s f μ0 μ → ∃ μ1, XA s f μ0 μ1 ∧ ((L_BT_calmsBy_34 (F_BT_calmsBy D1) 60 (nI (k + 1)) (nI q) (nI b) kk n x μ = some (1, μ1) ∧ ∃ a', a ≤ a' ∧ a' < b ∧ QX (vq q s) (s 0 0) k (b + 1) (swf f a' b)) ∨ (L_BT_calmsBy_34 (F_BT_calmsBy D1) 60 (nI (k + 1)) (nI q) (nI b) kk n x μ = kk μ1 ∧ ¬ ∃ a', a ≤ a' ∧ a' < b ∧ QX (vq q s) (s 0 0) k (b + 1) (swf f a' b))) := by
      intro b hb kk d
      induction d with
      | zero =>
        intro a ha n hn x hx μ A
        obtain ⟨N1, rfl⟩ : ∃ N, n = N + 1 := ⟨n - 1, by omega⟩
        subst hx
        rw [L_BT_calmsBy_34, ite_le (by omega) (by omega), if_pos (by omega)]
        exact ⟨μ, A, Or.inr ⟨rfl, fun ⟨a', h1, h2, _⟩ => by omega⟩⟩
      | succ d ihd =>
        intro a ha n hn x hx μ A
        obtain ⟨N1, rfl⟩ : ∃ N, n = N + 1 := ⟨n - 1, by omega⟩
        subst hx
        obtain ⟨μ1, a1, a2⟩ := A.swap (a := a) (b := b) (by omega) (by omega)
        obtain ⟨c, μ2, b1, b2, b3⟩ := ih (by omega) D1 (b + 1) _ μ1 (by omega) (by omega) a2
        obtain ⟨μ3, c1, c2⟩ := b2.swap (a := a) (b := b) (by omega) (by omega)
        rw [swf2] at c2
        have e1 : nI (k + 1) - 1 = nI k := nI_s k 1
        rw [L_BT_calmsBy_34, ite_le (by omega) (by omega), if_neg (by omega), a1, Option.bind_some, e1, nI_1 b, b1, Option.bind_some]
        simp only []
        rw [c1, Option.bind_some, ite_b0]
        cases c with
        | true =>
          rw [if_pos rfl]
          exact ⟨μ3, c2, Or.inl ⟨rfl, a, Nat.le_refl _, by omega, b3.mp rfl⟩⟩
        | false =>
          rw [if_neg (by decide)]
          have hno : ¬ QX (vq q s) (s 0 0) k (b + 1) (swf f a b) := fun h => absurd (b3.mpr h) (by decide)
          obtain ⟨μ4, d1, d2⟩ := ihd (a + 1) (by omega) N1 (by omega) (nI a + 1) (nI_1 a) μ3 c2
          refine ⟨μ4, d1, ?_⟩
          rcases d2 with ⟨d2, a', h1, h2, h3⟩ | ⟨d2, h⟩
          · exact Or.inl ⟨d2, a', by omega, h2, h3⟩
          · refine Or.inr ⟨d2, fun ⟨a', h1, h2, h3⟩ => ?_⟩
            by_cases e : a' = a
            · rw [e] at h3
              exact hno h3
            · exact h ⟨a', by omega, h2, h3⟩
    have outer : ∀ d b, b + d = 6 → ∀ n, d < n → ∀ x, x = nI b → ∀ μ, XA s f μ0 μ → ∃ c μ1, L_BT_calmsBy_22 (F_BT_calmsBy D1) 60 (nI (k + 1)) (nI q) (fun (μ20 : Mm) => some (0, μ20)) n x μ = some (b2i c, μ1) ∧ XA s f μ0 μ1 ∧ (c = true ↔ QX (vq q s) (s 0 0) (k + 1) b f) := by
      intro d
      induction d with
      | zero =>
        intro b hb n hn x hx μ A
        obtain ⟨N1, rfl⟩ : ∃ N, n = N + 1 := ⟨n - 1, by omega⟩
        subst hx
        have e1 : μ 60 1 = nI (s 0 0) := A.1.1
        rw [L_BT_calmsBy_22, e1, ite_le (by omega) (by omega), if_pos (by omega)]
        exact ⟨false, μ, rfl, A, ⟨fun h => absurd h (by decide), fun ⟨b', a', h1, h2, _⟩ => by omega⟩⟩
      | succ d ihd =>
        intro b hb n hn x hx μ A
        obtain ⟨N1, rfl⟩ : ∃ N, n = N + 1 := ⟨n - 1, by omega⟩
        subst hx
        have e1 : μ 60 1 = nI (s 0 0) := A.1.1
        rw [L_BT_calmsBy_22, e1, ite_le (by omega) (by omega)]
        by_cases c0 : s 0 0 ≤ b
        · rw [if_pos c0]
          exact ⟨false, μ, rfl, A, ⟨fun h => absurd h (by decide), fun ⟨b', a', h1, h2, _⟩ => by omega⟩⟩
        · rw [if_neg c0]
          obtain ⟨μ1, i1, i2⟩ := inner b (by omega) (fun (μ19 : Mm) => L_BT_calmsBy_22 (F_BT_calmsBy D1) 60 (nI (k + 1)) (nI q) (fun (μ20 : Mm) => some (0, μ20)) N1 (nI b + 1) μ19) b 0 (by omega) fu (fu_gt (by omega)) 0 rfl μ A
          rcases i2 with ⟨i2, a', h1, h2, h3⟩ | ⟨i2, h⟩
          · exact ⟨true, μ1, i2, i1, ⟨fun _ => ⟨b, a', Nat.le_refl _, by omega, h2, h3⟩, fun _ => rfl⟩⟩
          · obtain ⟨c, μ2, j1, j2, j3⟩ := ihd (b + 1) (by omega) N1 (by omega) (nI b + 1) (nI_1 b) μ1 i1
            refine ⟨c, μ2, i2.trans j1, j2, j3.trans ⟨fun ⟨b', a', h1, h2, h3, h4⟩ => ⟨b', a', by omega, h2, h3, h4⟩, fun ⟨b', a', h1, h2, h3, h4⟩ => ?_⟩⟩
            by_cases e : b' = b
            · rw [e] at h3 h4
              exact absurd ⟨a', Nat.zero_le _, h3, h4⟩ h
            · exact ⟨b', a', by omega, h2, h3, h4⟩
    rw [F_BT_calmsBy]
    unfold B_BT_calmsBy
    rw [q0, ite_lt (by omega) (by omega), if_pos (by omega)]
    exact outer (6 - m) m (by omega) fu (fu_gt (by omega)) _ rfl μ A
/-! the reference -/
theorem MT.swaps {σ s : Sg} {f : Nat → Nat} {μ0 μ : Mm} (T : MT σ (row s 3 f) μ0 μ) {p : Nat} (hp : p < 36) : ∃ μ1, F_M_swaps (nI p) μ = some μ1 ∧ MT σ (row s 3 (swf f (p / 6) (p % 6))) μ0 μ1 := by
  have h1 : p / 6 < 6 := by omega
  have h2 : p % 6 < 6 := by omega
  have h6 := T.1.2.2.2.2.2.2.1
  unfold F_M_swaps
  rw [q6, nI_remP (by omega) (by omega) (by omega), pk_div (by omega) (by omega) (by omega), rdI_nI h1 (by omega), Option.bind_some, rdI_nI h2 (by omega), Option.bind_some, wrI_nI h1 (by omega), Option.bind_some, wrI_nI h2 (by omega), Option.bind_some]
  refine ⟨_, rfl, ?_⟩
  rw [← row_row (g := f)]
  refine T.step (MR_row3 T.1 (fun q hq => ?_) (fun c hc => by rw [u_cf hc, u_cf hc])) (fun c _ h _ _ => by rw [u_cf h, u_cf h]) (fun j _ => by rw [u_nc (by omega), u_nc (by omega)])
  unfold swf
  by_cases c1 : q = p % 6
  · rw [if_pos c1, u_eq rfl c1]
    exact h6 _ h1
  · rw [if_neg c1, u_nj c1]
    by_cases c2 : q = p / 6
    · rw [if_pos c2, u_eq rfl c2]
      exact h6 _ h2
    · rw [if_neg c2, u_nj c2]
      exact h6 _ hq
theorem isPair_c {μ : Mm} {P N : Nat} (h : μ 0 0 = nI P) (hP : P ≤ 6) (hN : N < 1000000) : F_M_isPair (nI (N % 36)) μ = some (b2i (opr P N)) := by
  have h1 : N % 36 < 36 := by omega
  unfold F_M_isPair opr
  rw [q6, nI_remP (by omega) (by omega) (by omega), pk_div (by omega) (by omega) (by omega), h, ite_le (by omega) (by omega), ite_le (by omega) (by omega)]
  by_cases c1 : N % 36 % 6 ≤ N % 36 / 6
  · rw [if_pos c1, decide_eq_false (by omega)]
    rfl
  · rw [if_neg c1, decide_eq_true (by omega)]
    by_cases c2 : P ≤ N % 36 % 6
    · rw [if_pos c2, decide_eq_false (by omega)]
      rfl
    · rw [if_neg c2, decide_eq_true (by omega)]
      rfl
theorem q36 : (36 : Int32) = nI 36 := rfl
theorem qbChk {μ : Mm} {P : Nat} (h : μ 0 0 = nI P) (hP : P ≤ 6) (y z : Int32) {K : Nat} (hK : K ≤ 3) (kk : Int32 → Option (Int32 × Mm)) : ∀ d j, j + d = K → ∀ n, d < n → ∀ x, x = nI j → ∀ N c, N < 1000000 → L_M_isQuietBy_9 (nI K) y z μ kk n (nI N) (b2i c) x = kk (b2i (c && oks P d N)) := by
  intro d
  induction d with
  | zero =>
    intro j hj n hn x hx N c hN
    obtain ⟨N1, rfl⟩ : ∃ N, n = N + 1 := ⟨n - 1, by omega⟩
    subst hx
    rw [L_M_isQuietBy_9, ite_le (by omega) (by omega), if_pos (by omega)]
    cases c <;> rfl
  | succ d ih =>
    intro j hj n hn x hx N c hN
    obtain ⟨N1, rfl⟩ : ∃ N, n = N + 1 := ⟨n - 1, by omega⟩
    subst hx
    have eo : oks P (d + 1) N = (opr P N && oks P d (N / 36)) := rfl
    rw [L_M_isQuietBy_9, ite_le (by omega) (by omega), if_neg (by omega), q36, nI_remP (by omega) (by omega) (by omega), isPair_c h hP hN, pk_div (by omega) (by omega) (by omega), jn_e, jn_e, Option.bind_some, ite_b0, ite_b0, eo]
    by_cases c1 : c = true
    · rw [if_pos c1, c1]
      by_cases c2 : opr P N = true
      · rw [if_pos c2, c2]
        exact ih (j + 1) (by omega) N1 (by omega) (nI j + 1) (nI_1 j) (N / 36) true (by omega)
      · have c2' : opr P N = false := by
          cases h : opr P N
          · rfl
          · exact absurd h c2
        rw [if_neg c2, c2']
        exact ih (j + 1) (by omega) N1 (by omega) (nI j + 1) (nI_1 j) (N / 36) false (by omega)
    · have c1' : c = false := by
        cases c
        · rfl
        · exact absurd rfl c1
      rw [if_neg c1, c1']
      exact ih (j + 1) (by omega) N1 (by omega) (nI j + 1) (nI_1 j) (N / 36) false (by omega)
theorem qbSw {σ s : Sg} {μ0 : Mm} (y : Int32) {K : Nat} (hK : K ≤ 3) (kk : Mm → Option (Int32 × Mm)) : ∀ d j, j + d = K → ∀ n, d < n → ∀ x, x = nI j → ∀ N f μ, N < 1000000 → MT σ (row s 3 f) μ0 μ → ∃ μ1, L_M_isQuietBy_74 (nI K) y kk n (nI N) x μ = kk μ1 ∧ MT σ (row s 3 (erow d N f)) μ0 μ1 := by
  intro d
  induction d with
  | zero =>
    intro j hj n hn x hx N f μ hN T
    obtain ⟨N1, rfl⟩ : ∃ N, n = N + 1 := ⟨n - 1, by omega⟩
    subst hx
    rw [L_M_isQuietBy_74, ite_le (by omega) (by omega), if_pos (by omega)]
    exact ⟨μ, rfl, T⟩
  | succ d ih =>
    intro j hj n hn x hx N f μ hN T
    obtain ⟨N1, rfl⟩ : ∃ N, n = N + 1 := ⟨n - 1, by omega⟩
    subst hx
    obtain ⟨μ1, a1, a2⟩ := T.swaps (p := N % 36) (by omega)
    rw [L_M_isQuietBy_74, ite_le (by omega) (by omega), if_neg (by omega), q36, nI_remP (by omega) (by omega) (by omega), a1, Option.bind_some, pk_div (by omega) (by omega) (by omega)]
    exact ih (j + 1) (by omega) N1 (by omega) (nI j + 1) (nI_1 j) (N / 36) _ μ1 (by omega) a2
theorem qbM {rs : Rsp} {σ : Sg} {μ0 μ : Mm} (R : RS σ μ0 μ) (K : MK rs μ0) (O : MO rs σ) (B : BW σ) {q k N : Nat} (hq : q ≤ 999) (hk : k ≤ 3) (hN : N < 1000000) : ∃ c μ1, F_M_isQuietBy (nI k) (nI N) (nI q) μ = some (b2i c, μ1) ∧ RS σ μ0 μ1 ∧ (c = true ↔ oks (σ 0 0) k N = true ∧ vq q (ups σ 0 2 0) (erow k N (σ 3))) := by
  have h66 := B.1
  obtain ⟨R1, R2, R3⟩ := R
  have e0 : μ 0 0 = nI (σ 0 0) := R1.1
  unfold F_M_isQuietBy
  have hc : ∀ kk, L_M_isQuietBy_9 (nI k) (nI N) (nI q) μ kk fu (nI N) 1 0 = kk (b2i (true && oks (σ 0 0) k N)) := fun kk => qbChk e0 h66 (nI N) (nI q) hk kk k 0 (by omega) fu (fu_gt (by omega)) 0 rfl N true hN
  rw [hc, Bool.true_and, ite_b0]
  by_cases c : oks (σ 0 0) k N = true
  · obtain ⟨μ1, a1, a2⟩ := MT.save R1
    have T : MT σ (row (ups σ 0 2 0) 3 (σ 3)) μ (up2 μ1 0 2 0) := by
      rw [show row (ups σ 0 2 0) 3 (σ 3) = ups σ 0 2 0 from row_self (s := ups σ 0 2 0) (i := 3)]
      exact a2.step (MR_wear (v := 0) a2.1) (fun c h0 _ _ _ => u_cf h0) (fun j hj => u_nj (by omega))
    have sb : SB σ (row (ups σ 0 2 0) 3 (erow k N (σ 3))) := (SB.ups (j := 2) (v := 0) (by omega)).tr (SB.row (by omega))
    have B1 : BW (row (ups σ 0 2 0) 3 (erow k N (σ 3))) := BW_row3 (BW_wear B (v := 0) (by omega)) (erow_le k N _ B.2.2.2.2.2.2.2.2.1)
    have l1 := ns_le B1 0
    obtain ⟨μ2, b1, b2⟩ := qbSw (nI q) hk (fun (μ23 : Mm) => (F_M_noise μ23).bind fun p_ => match p_ with | (v24, μ25) => jn (α := Int32) (fun K30 => (if nI q < v24 then K30 0 else K30 1)) (fun (j27 : Int32) => (F_M_putBack μ25).bind fun μ28 => (rZ j27).bind fun r_ => some (r_, μ28))) k 0 (by omega) fu (fu_gt (by omega)) 0 rfl N (σ 3) _ hN T
    obtain ⟨μ3, c1, c2⟩ := b2.noise (K.my R3) (O.sb sb) B1
    obtain ⟨μ4, d1, d2, d3, d4⟩ := c2.back sb
    rw [if_pos c, a1, Option.bind_some, lt_e, b1, c1, Option.bind_some]
    simp only []
    rw [jn_e, ite_lt (by omega) (by omega), d1]
    by_cases c3 : q < ns (row (ups σ 0 2 0) 3 (erow k N (σ 3))) 0
    · rw [if_pos c3]
      refine ⟨false, μ4, by show ((rZ 0).bind fun r_ => some (r_, μ4)) = some (0, μ4); rw [rZ_0]; rfl, ⟨d2, d3, R3.tr d4⟩, ⟨fun h => absurd h (by decide), fun h => absurd (show ns (row (ups σ 0 2 0) 3 (erow k N (σ 3))) 0 ≤ q from h.2) (by omega)⟩⟩
    · rw [if_neg c3]
      refine ⟨true, μ4, by show ((rZ 1).bind fun r_ => some (r_, μ4)) = some (1, μ4); rw [rZ_1]; rfl, ⟨d2, d3, R3.tr d4⟩, ⟨fun _ => ⟨c, (show ns (row (ups σ 0 2 0) 3 (erow k N (σ 3))) 0 ≤ q by omega)⟩, fun _ => rfl⟩⟩
  · rw [if_neg c]
    exact ⟨false, μ, rfl, ⟨R1, R2, R3⟩, ⟨fun h => absurd h (by decide), fun h => absurd h.1 c⟩⟩
theorem fewML {rs : Rsp} {σ : Sg} {μ0 : Mm} (K : MK rs μ0) (O : MO rs σ) (B : BW σ) {q k : Nat} (hq : q ≤ 999) (hk : k ≤ 3) {A : Nat} (hA : A < 100000) (kk : Mm → Option (Int32 × Mm)) : ∀ d j, j + d = A → ∀ n, d < n → ∀ x, x = nI j → ∀ μ, RS σ μ0 μ → ∃ μ1, RS σ μ0 μ1 ∧ ((L_M_few_34 (nI q) (nI A) (nI k) kk n x μ = some (nI k, μ1) ∧ ∃ N, j ≤ N ∧ N < A ∧ oks (σ 0 0) k N = true ∧ vq q (ups σ 0 2 0) (erow k N (σ 3))) ∨ (L_M_few_34 (nI q) (nI A) (nI k) kk n x μ = kk μ1 ∧ ¬ ∃ N, j ≤ N ∧ N < A ∧ oks (σ 0 0) k N = true ∧ vq q (ups σ 0 2 0) (erow k N (σ 3)))) := by
  intro d
  induction d with
  | zero =>
    intro j hj n hn x hx μ R
    obtain ⟨N1, rfl⟩ : ∃ N, n = N + 1 := ⟨n - 1, by omega⟩
    subst hx
    rw [L_M_few_34, ite_le (by omega) (by omega), if_pos (by omega)]
    exact ⟨μ, R, Or.inr ⟨rfl, fun ⟨N, h1, h2, _⟩ => by omega⟩⟩
  | succ d ih =>
    intro j hj n hn x hx μ R
    obtain ⟨N1, rfl⟩ : ∃ N, n = N + 1 := ⟨n - 1, by omega⟩
    subst hx
    obtain ⟨c, μ1, a1, a2, a3⟩ := qbM R K O B hq hk (N := j) (by omega)
    rw [L_M_few_34, ite_le (by omega) (by omega), if_neg (by omega), a1, Option.bind_some]
    simp only []
    rw [ite_b0]
    cases c with
    | true =>
      rw [if_pos rfl]
      exact ⟨μ1, a2, Or.inl ⟨rfl, j, Nat.le_refl _, by omega, a3.mp rfl⟩⟩
    | false =>
      rw [if_neg (by decide)]
      have hno : ¬ (oks (σ 0 0) k j = true ∧ vq q (ups σ 0 2 0) (erow k j (σ 3))) := fun h => absurd (a3.mpr h) (by decide)
      obtain ⟨μ2, b1, b2⟩ := ih (j + 1) (by omega) N1 (by omega) (nI j + 1) (nI_1 j) μ1 a2
      refine ⟨μ2, b1, ?_⟩
      rcases b2 with ⟨b2, N, h1, h2, h3⟩ | ⟨b2, h⟩
      · exact Or.inl ⟨b2, N, by omega, h2, h3⟩
      · refine Or.inr ⟨b2, fun ⟨N, h1, h2, h3⟩ => ?_⟩
        by_cases e : N = j
        · rw [e] at h3
          exact hno h3
        · exact h ⟨N, by omega, h2, h3⟩
/-- one number of changes, by the reference -/
theorem fewM1 {rs : Rsp} {σ : Sg} {μ0 μ : Mm} (R : RS σ μ0 μ) (K : MK rs μ0) (O : MO rs σ) (B : BW σ) {q k : Nat} (hq : q ≤ 999) (hk : k ≤ 3) (kk : Mm → Option (Int32 × Mm)) : ∃ μ1, RS σ μ0 μ1 ∧ ((L_M_few_34 (nI q) (nI (36 ^ k)) (nI k) kk fu 0 μ = some (nI k, μ1) ∧ QM (vq q (ups σ 0 2 0)) (σ 0 0) k (σ 3)) ∨ (L_M_few_34 (nI q) (nI (36 ^ k)) (nI k) kk fu 0 μ = kk μ1 ∧ ¬ QM (vq q (ups σ 0 2 0)) (σ 0 0) k (σ 3))) := by
  have hP : 36 ^ k < 100000 := by
    have : 36 ^ k ≤ 36 ^ 3 := Nat.pow_le_pow_right (by omega) hk
    have : 36 ^ 3 = 46656 := by decide
    omega
  obtain ⟨μ1, a1, a2⟩ := fewML K O B hq hk hP kk (36 ^ k) 0 (by omega) fu hP 0 rfl μ R
  have e : QM (vq q (ups σ 0 2 0)) (σ 0 0) k (σ 3) ↔ ∃ N, 0 ≤ N ∧ N < 36 ^ k ∧ oks (σ 0 0) k N = true ∧ vq q (ups σ 0 2 0) (erow k N (σ 3)) :=
    (QM_num B.1 k (σ 3)).trans ⟨fun ⟨N, h⟩ => ⟨N, Nat.zero_le _, h⟩, fun ⟨N, _, h⟩ => ⟨N, h⟩⟩
  refine ⟨μ1, a1, ?_⟩
  rw [e]
  exact a2
section CMD
variable {μ μ' : Mm} {ν ν' : Ml}
theorem st_few (I : Inv μ ν μ' ν') (a : Int32) : ∃ r μ1 μ1', F_BT_few a μ = some (r, μ1) ∧ F_M_few a μ' = some (r, μ1') ∧ Inv μ1 ν μ1' ν' := by
  obtain ⟨n, rsf, L, tx, σ, τ, im, h1, h2, hs, h8, h9, h10, h11, h12⟩ := id I
  obtain ⟨h3, h4, h5, h6, h7⟩ := id hs
  have K : MK (rsH rsf (σ 16 0)) μ' := Inv_MK h1 h7.2.2.2.1 h6.1
  have B := h7.1
  have h66 := B.1
  have O := h7.2.2.1
  have l1 := ns_le B 0
  unfold F_BT_few F_M_few
  rcases noise_c a with ⟨q, hq, rfl, e1, e2⟩ | ⟨e1, e2⟩
  · obtain ⟨μa, n1, n2⟩ := m_noise h5 K O B
    have xn : F_Seat_noise 40 0 μ = some (nI (ns σ 0)) := x_noise h3 B (t := 0) (by omega)
    have Ra : RS σ μ' μa := ⟨h5.p26 n2, by rw [n2 0 (by omega)]; exact h12, MY.p26 n2⟩
    rw [e1, e2, Option.bind_some, Option.bind_some, if_neg one_ne, if_neg one_ne, xn, n1, Option.bind_some, Option.bind_some]
    simp only []
    rw [ite_lt (by omega) (by omega), ite_lt (by omega) (by omega)]
    by_cases c0 : q < ns σ 0
    · rw [if_pos c0, if_pos c0]
      unfold F_BT_plansFromNow
      obtain ⟨μ1, a1, a2⟩ := XT.start h3 h4 h7.2.1 (μ := μ) Off.rf
      have a3 := a2.wear0
      have A : XA (ups σ 0 2 0) (σ 3) (up2 μ1 60 3 0) (up2 μ1 60 3 0) := by
        refine ⟨?_, B.2.2.2.2.2.2.2.2.1, fun _ _ _ => rfl⟩
        rw [show row (ups σ 0 2 0) 3 (σ 3) = ups σ 0 2 0 from row_self (s := ups σ 0 2 0) (i := 3)]
        exact a3.1
      have Bw : BW (ups σ 0 2 0) := BW_wear B (by omega)
      have l2 := ns_le Bw 0
      have xj : ∀ μ4, XA (ups σ 0 2 0) (σ 3) (up2 μ1 60 3 0) μ4 → XJ μ μ4 := fun μ4 A4 => ⟨fun c h1 h13 hc => (A4.2.2 c h13 (by omega)).trans (a3.2.2 c (by omega)), by rw [A4.2.2 1 (by omega) (by omega), a3.2.2 1 (by omega)]⟩
      have fin : ∀ μ4 μ4', XA (ups σ 0 2 0) (σ 3) (up2 μ1 60 3 0) μ4 → RS σ μ' μ4' → Inv μ4 ν μ4' ν' := fun μ4 μ4' A4 R4 => (Inv.ask h1 h2 hs h8 h9 h10 h11 h12 Off.rf R4.2.2 R4.1 R4.2.1).j (xj μ4 A4) MJ.rf
      have vqi : ∀ μ4, XA (ups σ 0 2 0) (σ 3) (up2 μ1 60 3 0) μ4 → F_Seat_noise 60 0 μ4 = some (nI (ns (ups σ 0 2 0) 0)) ∧ μ4 60 1 = nI (σ 0 0) := fun μ4 A4 => by
        have A5 := A4.1
        rw [show row (ups σ 0 2 0) 3 (σ 3) = ups σ 0 2 0 from row_self (s := ups σ 0 2 0) (i := 3)] at A5
        exact ⟨x_noise A5 Bw (t := 0) (by omega), A5.1⟩
      have hv : vq q (ups σ 0 2 0) (σ 3) ↔ ns (ups σ 0 2 0) 0 ≤ q := by
        unfold vq
        rw [show row (ups σ 0 2 0) 3 (σ 3) = ups σ 0 2 0 from row_self (s := ups σ 0 2 0) (i := 3)]
      obtain ⟨N, hN⟩ : ∃ N, fu = N + 4 := ⟨99996, rfl⟩
      have w1 : (1 : Int32) + 1 = nI 2 := rfl
      have w2 : nI 2 + 1 = nI 3 := rfl
      have w3 : nI 3 + 1 = nI 4 := rfl
      rw [a1, Option.bind_some, lt_e, Option.bind_some]
      -- the class's three turns
      have X1 : ∀ (c : Bool) (μ4 : Mm), F_BT_calmsBy 5 60 1 1 (nI q) (up2 μ1 60 3 0) = some (b2i c, μ4) → L_BT_few_34 (nI q) (fun (μ16 : Mm) => some ((-5), μ16)) fu 1 (up2 μ1 60 3 0) = if c = true then some (1, μ4) else L_BT_few_34 (nI q) (fun (μ16 : Mm) => some ((-5), μ16)) (N + 3) (nI 2) μ4 := fun c μ4 h => by
        rw [hN, L_BT_few_34, if_neg (show ¬ (3 : Int32) < 1 by decide), jn_e, if_neg (show ¬ (1 : Int32) = 2 by decide), h, Option.bind_some]
        simp only []
        rw [ite_b0, w1]
      have X2 : ∀ (c : Bool) (μ4 μ5 : Mm), XA (ups σ 0 2 0) (σ 3) (up2 μ1 60 3 0) μ4 → F_BT_calmsBy 5 60 (nI 2) 1 (nI q) μ4 = some (b2i c, μ5) → L_BT_few_34 (nI q) (fun (μ16 : Mm) => some ((-5), μ16)) (N + 3) (nI 2) μ4 = if 2 ≤ σ 0 0 ∧ ns (ups σ 0 2 0) 0 ≤ q then some (nI 2, μ4) else if c = true then some (nI 2, μ5) else L_BT_few_34 (nI q) (fun (μ16 : Mm) => some ((-5), μ16)) (N + 2) (nI 3) μ5 := fun c μ4 μ5 A4 h => by
        obtain ⟨v1, v2⟩ := vqi μ4 A4
        rw [L_BT_few_34, if_neg (show ¬ (3 : Int32) < nI 2 by decide), jn_e, if_pos (show nI 2 = 2 by decide), v1, v2, q2, ite_lt (by omega) (by omega), Option.bind_some, ite_lt (by omega) (by omega), h, Option.bind_some]
        simp only []
        rw [ite_b0, w2]
        by_cases d1 : σ 0 0 < 2
        · rw [if_pos d1, if_neg (show ¬ (2 ≤ σ 0 0 ∧ ns (ups σ 0 2 0) 0 ≤ q) from fun x => by omega)]
        · rw [if_neg d1]
          by_cases d2 : q < ns (ups σ 0 2 0) 0
          · rw [if_pos d2, if_neg (show ¬ (2 ≤ σ 0 0 ∧ ns (ups σ 0 2 0) 0 ≤ q) from fun x => by omega)]
          · rw [if_neg d2, if_pos (show 2 ≤ σ 0 0 ∧ ns (ups σ 0 2 0) 0 ≤ q by omega)]
      have X3 : ∀ (c : Bool) (μ4 μ5 : Mm), F_BT_calmsBy 5 60 (nI 3) 1 (nI q) μ4 = some (b2i c, μ5) → L_BT_few_34 (nI q) (fun (μ16 : Mm) => some ((-5), μ16)) (N + 2) (nI 3) μ4 = if c = true then some (nI 3, μ5) else some (-5, μ5) := fun c μ4 μ5 h => by
        rw [L_BT_few_34, if_neg (show ¬ (3 : Int32) < nI 3 by decide), jn_e, if_neg (show ¬ nI 3 = 2 by decide), h, Option.bind_some]
        simp only []
        rw [ite_b0, w3, L_BT_few_34, if_pos (show (3 : Int32) < nI 4 by decide)]
      -- the reference's three turns
      have m1 : (36 : Int32) = nI (36 ^ 1) := rfl
      have m2 : nI (36 ^ 1) * 36 = nI (36 ^ 2) := by rw [q36, pk_mul]
      have m3 : nI (36 ^ 2) * 36 = nI (36 ^ 3) := by rw [q36, pk_mul]
      have M0 : L_M_few_26 (nI q) (fun (μ19 : Mm) => some ((-5), μ19)) fu 36 1 μa = L_M_few_34 (nI q) (nI (36 ^ 1)) (nI 1) (fun (μ18 : Mm) => L_M_few_26 (nI q) (fun (μ19 : Mm) => some ((-5), μ19)) (N + 3) (nI (36 ^ 2)) (nI 2) μ18) fu 0 μa := by
        have e : ∀ M, L_M_few_26 (nI q) (fun (μ19 : Mm) => some ((-5), μ19)) (M + 1) 36 1 μa = L_M_few_34 (nI q) 36 1 (fun (μ18 : Mm) => L_M_few_26 (nI q) (fun (μ19 : Mm) => some ((-5), μ19)) M (36 * 36) (1 + 1) μ18) fu 0 μa := fun M => by
          rw [L_M_few_26, if_neg (show ¬ (4 : Int32) ≤ 1 by decide)]
        exact (congrArg (fun M => L_M_few_26 (nI q) (fun (μ19 : Mm) => some ((-5), μ19)) M 36 1 μa) hN).trans (e (N + 3))
      have M1 : ∀ μ4, L_M_few_26 (nI q) (fun (μ19 : Mm) => some ((-5), μ19)) (N + 3) (nI (36 ^ 2)) (nI 2) μ4 = L_M_few_34 (nI q) (nI (36 ^ 2)) (nI 2) (fun (μ18 : Mm) => L_M_few_26 (nI q) (fun (μ19 : Mm) => some ((-5), μ19)) (N + 2) (nI (36 ^ 3)) (nI 3) μ18) fu 0 μ4 := fun μ4 => by
        rw [L_M_few_26, if_neg (show ¬ (4 : Int32) ≤ nI 2 by decide), m3, w2]
      have M2 : ∀ μ4, L_M_few_26 (nI q) (fun (μ19 : Mm) => some ((-5), μ19)) (N + 2) (nI (36 ^ 3)) (nI 3) μ4 = L_M_few_34 (nI q) (nI (36 ^ 3)) (nI 3) (fun (μ18 : Mm) => L_M_few_26 (nI q) (fun (μ19 : Mm) => some ((-5), μ19)) (N + 1) (nI (36 ^ 3) * 36) (nI 4) μ18) fu 0 μ4 := fun μ4 => by
        rw [L_M_few_26, if_neg (show ¬ (4 : Int32) ≤ nI 3 by decide), w3]
      have M3 : ∀ μ4 x, L_M_few_26 (nI q) (fun (μ19 : Mm) => some ((-5), μ19)) (N + 1) x (nI 4) μ4 = some (-5, μ4) := fun μ4 x => by
        rw [L_M_few_26, if_pos (show (4 : Int32) ≤ nI 4 by decide)]
      obtain ⟨c, μ2, y1, y2, y3⟩ := calmX Bw hq 1 (by omega) 5 1 _ _ (by omega) (by omega) A
      obtain ⟨μ2', z1, z2⟩ := fewM1 Ra K O B hq (k := 1) (by omega) (fun (μ18 : Mm) => L_M_few_26 (nI q) (fun (μ19 : Mm) => some ((-5), μ19)) (N + 3) (nI (36 ^ 2)) (nI 2) μ18)
      rw [X1 c μ2 y1, M0]
      have t1 := y3.trans q_one
      rcases z2 with ⟨z2, z3⟩ | ⟨z2, z3⟩
      · rw [if_pos (t1.mpr z3), z2]
        exact ⟨_, _, _, rfl, rfl, fin _ _ y2 z1⟩
      · rw [if_neg (fun x => z3 (t1.mp x)), z2]
        obtain ⟨c', μ3, u1, u2, u3⟩ := calmX Bw hq 2 (by omega) 5 1 _ _ (by omega) (by omega) y2
        obtain ⟨μ3', v1, v2⟩ := fewM1 z1 K O B hq (k := 2) (by omega) (fun (μ18 : Mm) => L_M_few_26 (nI q) (fun (μ19 : Mm) => some ((-5), μ19)) (N + 2) (nI (36 ^ 3)) (nI 3) μ18)
        rw [X2 c' μ2 μ3 y2 u1, M1]
        rcases v2 with ⟨v2, v3⟩ | ⟨v2, v3⟩
        · rw [v2]
          by_cases d : 2 ≤ σ 0 0 ∧ ns (ups σ 0 2 0) 0 ≤ q
          · rw [if_pos d]
            exact ⟨_, _, _, rfl, rfl, fin _ _ y2 v1⟩
          · rw [if_neg d]
            rcases q_two.mpr v3 with w | w
            · exact absurd ⟨w.1, hv.mp w.2⟩ d
            · rw [if_pos (u3.mpr w)]
              exact ⟨_, _, _, rfl, rfl, fin _ _ u2 v1⟩
        · have d : ¬ (2 ≤ σ 0 0 ∧ ns (ups σ 0 2 0) 0 ≤ q) := fun w => v3 (q_two.mp (Or.inl ⟨w.1, hv.mpr w.2⟩))
          rw [if_neg d, if_neg (fun w => v3 (q_two.mp (Or.inr (u3.mp w)))), v2]
          obtain ⟨c'', μ4, x1, x2, x3⟩ := calmX Bw hq 3 (by omega) 5 1 _ _ (by omega) (by omega) u2
          obtain ⟨μ4', r1, r2⟩ := fewM1 v1 K O B hq (k := 3) (by omega) (fun (μ18 : Mm) => L_M_few_26 (nI q) (fun (μ19 : Mm) => some ((-5), μ19)) (N + 1) (nI (36 ^ 3) * 36) (nI 4) μ18)
          have t3 := x3.trans (q_three z3)
          rw [X3 c'' μ3 μ4 x1, M2]
          rcases r2 with ⟨r2, r3⟩ | ⟨r2, r3⟩
          · rw [if_pos (t3.mpr r3), r2]
            exact ⟨_, _, _, rfl, rfl, fin _ _ x2 r1⟩
          · rw [if_neg (fun w => r3 (t3.mp w)), r2, M3]
            exact ⟨_, _, _, rfl, rfl, fin _ _ x2 r1⟩
    · rw [if_neg c0, if_neg c0]
      exact ⟨_, _, _, rfl, rfl, Inv.ask h1 h2 hs h8 h9 h10 h11 h12 Off.rf Ra.2.2 Ra.1 Ra.2.1⟩
  · rw [e1, e2, Option.bind_some, Option.bind_some, if_pos rfl, if_pos rfl]
    exact ⟨_, _, _, rfl, rfl, I⟩
end CMD
