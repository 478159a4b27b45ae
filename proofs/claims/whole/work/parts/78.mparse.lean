/-! the reference reads a text -/
def GM (g : Nat → Nat) (μ : Mm) : Prop := ∃ L tx, L ≤ 100 ∧ μ 0 11 = nI L ∧ (∀ j, j < L → tx j < 128 ∧ μ 14 j = nI (tx j)) ∧ ∀ i, g i = sgn L tx i
theorem GM.mv {g : Nat → Nat} {μ μ1 : Mm} (h : GM g μ) (h1 : μ1 14 = μ 14) (h2 : μ1 0 11 = μ 0 11) : GM g μ1 := by
  obtain ⟨L, tx, a, b, c, d⟩ := h
  exact ⟨L, tx, a, h2.trans b, fun j hj => by rw [h1]; exact c j hj, d⟩
theorem GM.lt {g : Nat → Nat} {μ : Mm} (h : GM g μ) (i : Nat) : g i < 128 ∨ g i = 200 := by
  obtain ⟨L, tx, _, _, h1, h2⟩ := h
  rw [h2 i]
  unfold sgn
  by_cases c : i < L
  · rw [if_pos c]; exact Or.inl (h1 i c).1
  · rw [if_neg c]; exact Or.inr rfl
theorem GM.e {g : Nat → Nat} {μ : Mm} (h : GM g μ) : ∀ i, 100 ≤ i → g i = 200 := fun i hi => by
  obtain ⟨L, tx, _, _, h1, h2⟩ := h
  rw [h2 i]
  unfold sgn
  rw [if_neg (by omega)]
theorem GM.in {g : Nat → Nat} {μ : Mm} (h : GM g μ) {i : Nat} (hi : g i ≠ 200) : i < 100 := Nat.lt_of_not_le (fun q => hi (h.e i q))
theorem m_next {g : Nat → Nat} {μ : Mm} (G : GM g μ) {i : Nat} (h : μ 0 12 = nI i) (hi : i ≤ 1000) : F_M_next μ = some (sI (g i)) := by
  obtain ⟨L, tx, g1, g2, g3, g4⟩ := G
  have gi := g4 i
  unfold sgn at gi
  unfold F_M_next
  rw [g2, h, ite_le (by omega) (by omega)]
  by_cases c : L ≤ i
  · rw [if_pos c, gi, if_neg (by omega)]
    rfl
  · have := (g3 i (by omega)).1
    rw [if_neg c, rdI_nI (by omega) (by omega), Option.bind_some, (g3 i (by omega)).2, gi, if_pos (by omega)]
    unfold sI
    rw [if_neg (by omega)]
theorem m_second {g : Nat → Nat} {μ : Mm} (G : GM g μ) {i : Nat} (h : μ 0 12 = nI i) (hi : i ≤ 1000) : F_M_second μ = some (sI (g (i + 1))) := by
  obtain ⟨L, tx, g1, g2, g3, g4⟩ := G
  have gi := g4 (i + 1)
  unfold sgn at gi
  unfold F_M_second
  rw [g2, h, nI_1, ite_le (by omega) (by omega)]
  by_cases c : L ≤ i + 1
  · rw [if_pos c, gi, if_neg (by omega)]
    rfl
  · have := (g3 (i + 1) (by omega)).1
    rw [if_neg c, rdI_nI (by omega) (by omega), Option.bind_some, (g3 (i + 1) (by omega)).2, gi, if_pos (by omega)]
    unfold sI
    rw [if_neg (by omega)]
/-- at and digits alone -/
def Fn (μ μ1 : Mm) : Prop := (∀ c, c ≠ 0 → μ1 c = μ c) ∧ ∀ j, j ≠ 12 → j ≠ 13 → μ1 0 j = μ 0 j
theorem Fn.rf {μ : Mm} : Fn μ μ := ⟨fun _ _ => rfl, fun _ _ _ => rfl⟩
theorem Fn.tr {μ μ1 μ2 : Mm} (h1 : Fn μ μ1) (h2 : Fn μ1 μ2) : Fn μ μ2 := ⟨fun c h => (h2.1 c h).trans (h1.1 c h), fun j a b => (h2.2 j a b).trans (h1.2 j a b)⟩
theorem Fn.up {μ : Mm} {j : Nat} {x : Int32} (hj : j = 12 ∨ j = 13) : Fn μ (up2 μ 0 j x) := ⟨fun c h => u_cf h, fun k a b => u_nj (by omega)⟩
theorem Fn.g {g : Nat → Nat} {μ μ1 : Mm} (h : Fn μ μ1) (G : GM g μ) : GM g μ1 := G.mv (h.1 14 (by omega)) (h.2 11 (by omega) (by omega))
theorem m_takes {g : Nat → Nat} {μ : Mm} (G : GM g μ) {i k : Nat} (h : μ 0 12 = nI i) (hi : i ≤ 1000) (hk : k < 128) {K : Int32} (hK : K = nI k) : (g i = k ∧ ∃ μ1, F_M_takes K μ = some (1, μ1) ∧ Fn μ μ1 ∧ μ1 0 12 = nI (i + 1)) ∨ (g i ≠ k ∧ F_M_takes K μ = some (0, μ)) := by
  unfold F_M_takes
  rw [m_next G h hi, Option.bind_some, ite_s (G.lt i) hk hK]
  by_cases c : g i = k
  · rw [if_pos c, lt_e, h, nI_1]
    exact Or.inl ⟨c, _, rfl, Fn.up (by omega), u_eq rfl rfl⟩
  · rw [if_neg c]
    exact Or.inr ⟨c, rfl⟩
theorem m_dig {g : Nat → Nat} {μ : Mm} (G : GM g μ) {i : Nat} (h : μ 0 12 = nI i) (hi : i ≤ 1000) : F_M_isDigit μ = some (b2i (dgt (g i))) := by
  unfold F_M_isDigit
  rw [m_next G h hi, Option.bind_some]
  have fin : ∀ c, c < 128 → ((F_M_in (sI c) 48 57).bind fun v3 => (rZ v3).bind fun r_ => some r_) = some (b2i (dgt c)) := by decide +kernel
  rcases G.lt i with q | q
  · exact fin _ q
  · rw [q]; decide
theorem dm_1 : ∀ c, c < 58 → 48 ≤ c → 10 * (0 : Int32) + sI c - 48 = nI (c - 48) := by decide +kernel
theorem dm_2 : ∀ a, a < 58 → 48 ≤ a → ∀ b, b < 58 → 48 ≤ b → 10 * nI (a - 48) + sI b - 48 = nI (10 * (a - 48) + (b - 48)) := by decide +kernel
theorem m_num {g : Nat → Nat} {μ : Mm} (G : GM g μ) {i : Nat} (h : μ 0 12 = nI i) (hi : i ≤ 300) : ∃ r μ1, F_M_takesNumber μ = some (r, μ1) ∧ Fn μ μ1 ∧ (match pN g i with | .inl q => r = 0 ∧ μ1 0 12 = nI q | .inr (n, j) => r = 1 ∧ μ1 0 12 = nI j ∧ μ1 0 13 = nI n) := by
  obtain ⟨N, hN⟩ : ∃ N, fu = N + 1 + 1 + 1 := ⟨99997, rfl⟩
  unfold F_M_takesNumber pN
  rw [m_dig G h (by omega), Option.bind_some, ite_b0]
  by_cases c1 : dgt (g i) = true
  · obtain ⟨a1, a2⟩ := dgt_c c1
    have f1 : Fn μ (up2 μ 0 13 0) := Fn.up (by omega)
    have e1 : up2 μ 0 13 0 0 12 = nI i := (u_nj (by omega)).trans h
    have e2 : up2 μ 0 13 0 0 13 = 0 := u_eq rfl rfl
    have f2 : Fn μ (up2 (up2 (up2 μ 0 13 0) 0 13 (nI (g i - 48))) 0 12 (nI (i + 1))) := (f1.tr (Fn.up (by omega))).tr (Fn.up (by omega))
    have G1 := f1.g G
    have G2 := f2.g G
    have e3 : up2 (up2 μ 0 13 0) 0 13 (nI (g i - 48)) 0 12 = nI i := (u_nj (by omega)).trans e1
    have e4 : up2 (up2 (up2 μ 0 13 0) 0 13 (nI (g i - 48))) 0 12 (nI (i + 1)) 0 12 = nI (i + 1) := u_eq rfl rfl
    have e5 : up2 (up2 (up2 μ 0 13 0) 0 13 (nI (g i - 48))) 0 12 (nI (i + 1)) 0 13 = nI (g i - 48) := (u_nj (by omega)).trans (u_eq rfl rfl)
    rw [if_pos c1, if_pos c1, lt_e, hN, L_M_takesNumber_16, if_neg (by decide), m_dig G1 e1 (by omega), Option.bind_some, ite_b0, if_pos c1, m_next G1 e1 (by omega), Option.bind_some, lt_e, lt_e, e2, dm_1 _ (by omega) a1, e3, nI_1, L_M_takesNumber_16, if_neg (by decide), m_dig G2 e4 (by omega), Option.bind_some, ite_b0]
    by_cases c2 : dgt (g (i + 1)) = true
    · obtain ⟨b1, b2⟩ := dgt_c c2
      rw [if_pos c2, if_pos c2, m_next G2 e4 (by omega), Option.bind_some, lt_e, lt_e, e5, dm_2 _ (by omega) a1 _ (by omega) b1, u_nj (by omega), e4, nI_1, L_M_takesNumber_16, if_pos (by decide)]
      exact ⟨1, _, rfl, (f2.tr (Fn.up (by omega))).tr (Fn.up (by omega)), rfl, u_eq rfl rfl, (u_nj (by omega)).trans (u_eq rfl rfl)⟩
    · rw [if_neg c2, if_neg c2]
      exact ⟨1, _, rfl, f2, rfl, e4, e5⟩
  · rw [if_neg c1, if_neg c1]
    exact ⟨0, μ, rfl, Fn.rf, rfl, h⟩
theorem m_place {c : Nat} (hc : c < 128 ∨ c = 200) : F_M_place (sI c) = some (match fct c with | none => -1 | some f => nI f) := by
  have fin : ∀ c, c < 128 → F_M_place (sI c) = some (match fct c with | none => -1 | some f => nI f) := by decide +kernel
  rcases hc with q | q
  · exact fin _ q
  · rw [q]; decide
/-! codes -/
def cd (k : Nat) : Int32 := if k < 10000 then nI k else -nI (k - 10000)
def Rp (m : Nat → Int32) (a : Nat) (l : List Nat) : Prop := ∀ k, k < l.length → m (a + k) = cd (l.getD k 0)
theorem Rp.nil {m : Nat → Int32} {a : Nat} : Rp m a [] := fun k hk => absurd hk (Nat.not_lt_zero k)
theorem Rp.one {m : Nat → Int32} {a c : Nat} (h : m a = cd c) : Rp m a [c] := fun k hk => by
  have e : k = 0 := by
    have : k < 1 := hk
    omega
  subst e
  exact h
theorem Rp.app {m : Nat → Int32} {a : Nat} {l1 l2 : List Nat} (h1 : Rp m a l1) (h2 : Rp m (a + l1.length) l2) : Rp m a (l1 ++ l2) := fun k hk => by
  rw [List.length_append] at hk
  by_cases c : k < l1.length
  · rw [h1 k c, List.getD_eq_getElem?_getD, List.getD_eq_getElem?_getD, List.getElem?_append_left c]
  · have := h2 (k - l1.length) (by omega)
    rw [show a + l1.length + (k - l1.length) = a + k by omega] at this
    rw [this, List.getD_eq_getElem?_getD, List.getD_eq_getElem?_getD, List.getElem?_append_right (by omega)]
theorem Rp.mv {m m1 : Nat → Int32} {a : Nat} {l : List Nat} (h : Rp m a l) (g : ∀ q, a ≤ q → q < a + l.length → m1 q = m q) : Rp m1 a l := fun k hk => (g _ (by omega) (by omega)).trans (h k hk)
theorem Rp.left {m : Nat → Int32} {a : Nat} {l1 l2 : List Nat} (h : Rp m a (l1 ++ l2)) : Rp m a l1 := fun k hk => by
  have := h k (by rw [List.length_append]; omega)
  rw [this, List.getD_eq_getElem?_getD, List.getD_eq_getElem?_getD, List.getElem?_append_left hk]
theorem Rp.right {m : Nat → Int32} {a : Nat} {l1 l2 : List Nat} (h : Rp m a (l1 ++ l2)) : Rp m (a + l1.length) l2 := fun k hk => by
  have := h (l1.length + k) (by rw [List.length_append]; omega)
  rw [Nat.add_assoc, this, List.getD_eq_getElem?_getD, List.getD_eq_getElem?_getD, List.getElem?_append_right (by omega), show l1.length + k - l1.length = k by omega]
theorem cd_s {k : Nat} (h : k < 10000) : cd k = nI k := if_pos h
theorem cd_33 : cd 10033 = -33 := by decide
/-! what the reading of one E changes: where it is, the codes from Q on, what waits -/
def FE (c Q W : Nat) (μ μ1 : Mm) : Prop := (∀ x, (x ≠ 0 ∧ x ≠ 19 ∧ x ≠ 20 ∧ x ≠ 21) → μ1 x = μ x) ∧ (∀ j, (j ≠ 12 ∧ j ≠ 13 ∧ j ≠ 22 ∧ j ≠ 23 ∧ j ≠ 24) → μ1 0 j = μ 0 j) ∧ (∀ q, q ≠ c → μ1 19 q = μ 19 q) ∧ (∀ q, q < Q → μ1 20 q = μ 20 q) ∧ ∀ q, q < W → μ1 21 q = μ 21 q
theorem FE.rf {c Q W : Nat} {μ : Mm} : FE c Q W μ μ := ⟨fun _ _ => rfl, fun _ _ => rfl, fun _ _ => rfl, fun _ _ => rfl, fun _ _ => rfl⟩
theorem FE.tr {c Q W Q1 W1 Q2 W2 : Nat} {μ μ1 μ2 : Mm} (h1 : FE c Q1 W1 μ μ1) (h2 : FE c Q2 W2 μ1 μ2) (a1 : Q ≤ Q1) (a2 : Q ≤ Q2) (b1 : W ≤ W1) (b2 : W ≤ W2) : FE c Q W μ μ2 := ⟨fun x h => (h2.1 x h).trans (h1.1 x h), fun j h => (h2.2.1 j h).trans (h1.2.1 j h), fun q h => (h2.2.2.1 q h).trans (h1.2.2.1 q h), fun q h => (h2.2.2.2.1 q (by omega)).trans (h1.2.2.2.1 q (by omega)), fun q h => (h2.2.2.2.2 q (by omega)).trans (h1.2.2.2.2 q (by omega))⟩
theorem FE.fn {c Q W : Nat} {μ μ1 : Mm} (h : Fn μ μ1) : FE c Q W μ μ1 := ⟨fun x hx => h.1 x hx.1, fun j hj => h.2 j hj.1 hj.2.1, fun q _ => by rw [h.1 19 (by omega)], fun q _ => by rw [h.1 20 (by omega)], fun q _ => by rw [h.1 21 (by omega)]⟩
theorem FE.g {c Q W : Nat} {g : Nat → Nat} {μ μ1 : Mm} (h : FE c Q W μ μ1) (G : GM g μ) : GM g μ1 := G.mv (h.1 14 (by omega)) (h.2.1 11 (by omega))
theorem FE.u0 {c Q W j : Nat} {x : Int32} {μ μ1 : Mm} (h : FE c Q W μ μ1) (hj : j = 12 ∨ j = 13 ∨ j = 22 ∨ j = 23 ∨ j = 24) : FE c Q W μ (up2 μ1 0 j x) := ⟨fun y hy => by rw [u_cf hy.1]; exact h.1 y hy, fun k hk => by rw [u_nj (by omega)]; exact h.2.1 k hk, fun q hq => by rw [u_nc (by omega)]; exact h.2.2.1 q hq, fun q hq => by rw [u_nc (by omega)]; exact h.2.2.2.1 q hq, fun q hq => by rw [u_nc (by omega)]; exact h.2.2.2.2 q hq⟩
theorem FE.u20 {c Q W j : Nat} {x : Int32} {μ μ1 : Mm} (h : FE c Q W μ μ1) (hj : Q ≤ j) : FE c Q W μ (up2 μ1 20 j x) := ⟨fun y hy => by rw [u_cf hy.2.2.1]; exact h.1 y hy, fun k hk => by rw [u_nc (by omega)]; exact h.2.1 k hk, fun q hq => by rw [u_nc (by omega)]; exact h.2.2.1 q hq, fun q hq => by rw [u_nj (by omega)]; exact h.2.2.2.1 q hq, fun q hq => by rw [u_nc (by omega)]; exact h.2.2.2.2 q hq⟩
theorem FE.u21 {c Q W j : Nat} {x : Int32} {μ μ1 : Mm} (h : FE c Q W μ μ1) (hj : W ≤ j) : FE c Q W μ (up2 μ1 21 j x) := ⟨fun y hy => by rw [u_cf hy.2.2.2]; exact h.1 y hy, fun k hk => by rw [u_nc (by omega)]; exact h.2.1 k hk, fun q hq => by rw [u_nc (by omega)]; exact h.2.2.1 q hq, fun q hq => by rw [u_nc (by omega)]; exact h.2.2.2.1 q hq, fun q hq => by rw [u_nj (by omega)]; exact h.2.2.2.2 q hq⟩
theorem FE.u19 {c Q W : Nat} {x : Int32} {μ μ1 : Mm} (h : FE c Q W μ μ1) : FE c Q W μ (up2 μ1 19 c x) := ⟨fun y hy => by rw [u_cf hy.2.1]; exact h.1 y hy, fun k hk => by rw [u_nc (by omega)]; exact h.2.1 k hk, fun q hq => by rw [u_nj hq]; exact h.2.2.1 q hq, fun q hq => by rw [u_nc (by omega)]; exact h.2.2.2.1 q hq, fun q hq => by rw [u_nc (by omega)]; exact h.2.2.2.2 q hq⟩
/-- where it is: at i, S codes, w wait, o are open -/
def SE (i S w o : Nat) (μ : Mm) : Prop := μ 0 12 = nI i ∧ μ 0 22 = nI S ∧ μ 0 23 = nI w ∧ μ 0 24 = nI o
theorem m_emits {c i S w o : Nat} {μ : Mm} {x : Int32} (h : SE i S w o μ) (hS : S < 600) : ∃ μ1, F_M_emits x μ = some μ1 ∧ SE i (S + 1) w o μ1 ∧ FE c S 1000 μ μ1 ∧ μ1 20 S = x := by
  obtain ⟨h1, h2, h3, h4⟩ := h
  have e : up2 μ 20 S x 0 22 = nI S := (u_nc (by omega)).trans h2
  unfold F_M_emits
  rw [h2, wrI_nI hS (by omega), Option.bind_some, lt_e, e, nI_1]
  exact ⟨_, rfl, ⟨by rw [u_nj (by omega), u_nc (by omega)]; exact h1, u_eq rfl rfl, by rw [u_nj (by omega), u_nc (by omega)]; exact h3, by rw [u_nj (by omega), u_nc (by omega)]; exact h4⟩, (FE.rf.u20 (Nat.le_refl S)).u0 (by omega), (u_nc (by omega)).trans (u_eq rfl rfl)⟩
def NB (w : Nat) (μ : Mm) : Prop := w = 0 ∨ ∃ k, k < 128 ∧ k ≠ 33 ∧ μ 21 (w - 1) = nI k
theorem NB.mv {w W Q c : Nat} {μ μ1 : Mm} (h : NB w μ) (f : FE c Q W μ μ1) (hw : w ≤ W) : NB w μ1 := by
  rcases h with h | ⟨k, h1, h2, h3⟩
  · exact Or.inl h
  · by_cases c0 : w = 0
    · exact Or.inl c0
    · exact Or.inr ⟨k, h1, h2, (f.2.2.2.2 _ (by omega)).trans h3⟩
/-- marks at the top go out -/
theorem m_wholeL {c i o w0 : Nat} : ∀ k n S μ, k < n → SE i S (w0 + k) (o + k) μ → S + k ≤ 600 → w0 + k ≤ 101 → NB w0 μ → (∀ q, w0 ≤ q → q < w0 + k → μ 21 q = 33) → ∃ μ1, L_M_whole_0 (fun (μ12 : Mm) => some μ12) n μ = some μ1 ∧ SE i (S + k) w0 o μ1 ∧ FE c S 1000 μ μ1 ∧ Rp (μ1 20) S (List.replicate k 10033) := by
  intro k
  induction k with
  | zero =>
    intro n S μ hn h hS hw hN hm
    obtain ⟨N1, rfl⟩ : ∃ N, n = N + 1 := ⟨n - 1, by omega⟩
    have h3 : μ 0 23 = nI w0 := h.2.2.1
    rw [L_M_whole_0, h3, q0, ite_le (by omega) (by omega)]
    by_cases c0 : w0 ≤ 0
    · rw [if_pos c0]
      exact ⟨μ, rfl, h, FE.rf, Rp.nil⟩
    · rcases hN with q | ⟨t, t1, t2, t3⟩
      · omega
      · have e : nI w0 - 1 = nI (w0 - 1) := by
          obtain ⟨v, rfl⟩ : ∃ v, w0 = v + 1 := ⟨w0 - 1, by omega⟩
          exact nI_s v 1
        rw [if_neg c0, e, rdI_nI (by omega) (by omega), Option.bind_some, t3, show (33 : Int32) = nI 33 from rfl, ite_eq (by omega) (by omega), if_neg t2]
        exact ⟨μ, rfl, h, FE.rf, Rp.nil⟩
  | succ k ih =>
    intro n S μ hn h hS hw hN hm
    obtain ⟨N1, rfl⟩ : ∃ N, n = N + 1 := ⟨n - 1, by omega⟩
    obtain ⟨h1, h2, h3, h4⟩ := id h
    obtain ⟨μ1, a1, a2, a3, a4⟩ := m_emits (c := c) (x := -33) h (by omega)
    have e : nI (w0 + (k + 1)) - 1 = nI (w0 + k) := nI_s (w0 + k) 1
    have e' : nI (o + (k + 1)) - 1 = nI (o + k) := nI_s (o + k) 1
    rw [L_M_whole_0, h3, q0, ite_le (by omega) (by omega), if_neg (by omega), e, rdI_nI (by omega) (by omega), Option.bind_some, hm _ (by omega) (by omega), if_pos rfl, a1, Option.bind_some, lt_e, a2.2.2.1, e, lt_e, u_nj (by omega), a2.2.2.2, e']
    have f1 : FE c S 1000 μ (up2 (up2 μ1 0 23 (nI (w0 + k))) 0 24 (nI (o + k))) := (a3.u0 (by omega)).u0 (by omega)
    obtain ⟨μ2, b1, b2, b3, b4⟩ := ih N1 (S + 1) (up2 (up2 μ1 0 23 (nI (w0 + k))) 0 24 (nI (o + k))) (by omega) ⟨by rw [u_nj (by omega), u_nj (by omega)]; exact a2.1, by rw [u_nj (by omega), u_nj (by omega)]; exact a2.2.1, (u_nj (by omega)).trans (u_eq rfl rfl), u_eq rfl rfl⟩ (by omega) (by omega) (hN.mv f1 (by omega)) (fun q x y => (f1.2.2.2.2 q (by omega)).trans (hm q x (by omega)))
    refine ⟨μ2, b1, by rw [show S + (k + 1) = S + 1 + k by omega]; exact b2, f1.tr b3 (Nat.le_refl _) (by omega) (Nat.le_refl _) (Nat.le_refl _), ?_⟩
    have e5 : μ2 20 S = -33 := by rw [b3.2.2.2.1 S (by omega), u_nc (by omega), u_nc (by omega)]; exact a4
    exact (Rp.one (c := 10033) (by rw [e5, cd_33])).app (l1 := [10033]) b4
theorem m_whole {c i o w0 k S : Nat} {μ : Mm} (h : SE i S (w0 + k) (o + k) μ) (hS : S + k ≤ 600) (hw : w0 + k ≤ 101) (hN : NB w0 μ) (hm : ∀ q, w0 ≤ q → q < w0 + k → μ 21 q = 33) : ∃ μ1, F_M_whole μ = some μ1 ∧ SE i (S + k) w0 o μ1 ∧ FE c S 1000 μ μ1 ∧ Rp (μ1 20) S (List.replicate k 10033) := by
  have e : F_M_whole μ = L_M_whole_0 (fun (μ12 : Mm) => some μ12) (fu + 1) μ := by
    rw [L_M_whole_0]
    rfl
  rw [e]
  exact m_wholeL k (fu + 1) S μ (by have := fu_gt (n := k) (by omega); omega) h hS hw hN hm
/-- a test, and the marks ahead of it -/
def TQ (c S w0 k o : Nat) (μ : Mm) (res : Option (Int32 × Mm)) (P : Nat ⊕ (Er × Nat)) : Prop := match P with
  | .inl p => ∃ μ1, res = some (0, μ1) ∧ μ1 0 12 = nI p ∧ FE c S w0 μ μ1
  | .inr (e, j) => ∃ μ1, res = some (1, μ1) ∧ SE j (S + e.1.length + k) w0 o μ1 ∧ Rp (μ1 20) S (e.1 ++ List.replicate k 10033) ∧ FE c S w0 μ μ1
theorem m_test {c : Nat} {g : Nat → Nat} {i S w0 k o : Nat} {μ : Mm} (G : GM g μ) (hi : i ≤ 100) (h : SE i S (w0 + k) (o + k) μ) (hS' : g i ≠ 200 → S + k < 600) (hw : w0 + k ≤ 101) (hN : NB w0 μ) (hm : ∀ q, w0 ≤ q → q < w0 + k → μ 21 q = 33) : TQ c S w0 k o μ (F_M_takesTest μ) (pT g i) := by
  unfold F_M_takesTest pT
  rw [m_next G h.1 (by omega), Option.bind_some, m_place (G.lt i), Option.bind_some]
  cases hf : fct (g i) with
  | none =>
    show TQ c S w0 k o μ (if (0 : Int32) ≤ -1 then _ else _) (.inl i)
    rw [if_neg (by decide)]
    exact ⟨μ, rfl, h.1, FE.rf⟩
  | some f =>
    have f5 := (fct_le hf).1
    have hS := hS' (fct_le hf).2
    have f1 : Fn μ (up2 μ 0 12 (nI (i + 1))) := Fn.up (by omega)
    have G1 := f1.g G
    have e1 : up2 μ 0 12 (nI (i + 1)) 0 12 = nI (i + 1) := u_eq rfl rfl
    have f2 : Fn μ (up2 (up2 μ 0 12 (nI (i + 1))) 0 12 (nI (i + 1 + 1))) := f1.tr (Fn.up (by omega))
    have G2 := f2.g G
    have e2 : up2 (up2 μ 0 12 (nI (i + 1))) 0 12 (nI (i + 1 + 1)) 0 12 = nI (i + 2) := u_eq rfl rfl
    obtain ⟨r, μ3, n1, n2, n3⟩ := m_num G2 e2 (by omega)
    have hin : F_M_in (sI (g (i + 1))) 60 62 = some (if 60 ≤ g (i + 1) ∧ g (i + 1) ≤ 62 then 1 else 0) := by
      have fin : ∀ c, c < 128 → F_M_in (sI c) 60 62 = some (if 60 ≤ c ∧ c ≤ 62 then 1 else 0) := by decide +kernel
      rcases G.lt (i + 1) with q | q
      · exact fin _ q
      · rw [q]; decide
    show TQ c S w0 k o μ (if (0 : Int32) ≤ nI f then _ else _) (if 60 ≤ g (i + 1) ∧ g (i + 1) ≤ 62 then (match pN g (i + 2) with
      | .inl p => .inl p
      | .inr (n, j) => .inr (tT f (g (i + 1) - 60) n, j)) else .inl (i + 1))
    rw [if_pos (nI_pos' (by omega)), lt_e, h.1, nI_1, m_next G1 e1 (by omega), Option.bind_some, hin, Option.bind_some]
    by_cases c1 : 60 ≤ g (i + 1) ∧ g (i + 1) ≤ 62
    · rw [if_pos c1, if_pos c1, if_neg one_ne, lt_e, e1, nI_1, n1, Option.bind_some]
      cases hn : pN g (i + 2) with
      | inl q =>
        rw [hn] at n3
        obtain ⟨n4, n5⟩ := n3
        subst n4
        exact ⟨μ3, rfl, n5, FE.fn (f2.tr n2)⟩
      | inr y =>
        obtain ⟨n, j⟩ := y
        rw [hn] at n3
        obtain ⟨n4, n5, n6⟩ := n3
        subst n4
        have hn9 := (pN_ok G.e hn).2.2
        have F3 := f2.tr n2
        have h3 : SE j S (w0 + k) (o + k) μ3 := ⟨n5, (F3.2 22 (by omega) (by omega)).trans h.2.1, (F3.2 23 (by omega) (by omega)).trans h.2.2.1, (F3.2 24 (by omega) (by omega)).trans h.2.2.2⟩
        have ec : (1000 * nI f + 100 * (sI (g (i + 1)) - 60)) + μ3 0 13 = nI (1000 * f + 100 * (g (i + 1) - 60) + n) := by
          have fin : ∀ c, c < 63 → 60 ≤ c → sI c - 60 = nI (c - 60) := by decide +kernel
          rw [n6, fin _ (by omega) c1.1, show (1000 : Int32) = nI 1000 from rfl, show (100 : Int32) = nI 100 from rfl, pk_mul, pk_mul, nI_add, nI_add]
        obtain ⟨μ4, a1, a2, a3, a4⟩ := m_emits (c := c) (x := nI (1000 * f + 100 * (g (i + 1) - 60) + n)) h3 (by omega)
        have F4 : FE c S 1000 μ μ4 := (FE.fn F3).tr a3 (Nat.le_refl _) (Nat.le_refl _) (Nat.le_refl 1000) (Nat.le_refl _)
        obtain ⟨μ5, b1, b2, b3, b4⟩ := m_whole (c := c) a2 (by omega) hw (hN.mv F4 (by omega)) (fun q x y => (F4.2.2.2.2 q (by omega)).trans (hm q x y))
        show ∃ μ1, (if (1 : Int32) = 0 then some (0, μ3) else (F_M_emits ((1000 * nI f + 100 * (sI (g (i + 1)) - 60)) + μ3 0 13) μ3).bind fun μ14 => (F_M_whole μ14).bind fun μ16 => some (1, μ16)) = some (1, μ1) ∧ SE j (S + 1 + k) w0 o μ1 ∧ Rp (μ1 20) S ([1000 * f + 100 * (g (i + 1) - 60) + n] ++ List.replicate k 10033) ∧ FE c S w0 μ μ1
        rw [if_neg one_ne, ec, a1, Option.bind_some, b1, Option.bind_some]
        refine ⟨μ5, rfl, b2, (Rp.one ?_).app (l1 := [1000 * f + 100 * (g (i + 1) - 60) + n]) b4, F4.tr b3 (Nat.le_refl _) (by omega) (by omega) (by omega)⟩
        rw [b3.2.2.2.1 S (by omega), a4, cd_s (by omega)]
    · rw [if_neg c1, if_neg c1, if_pos rfl]
      exact ⟨_, rfl, e1, FE.fn f1⟩
