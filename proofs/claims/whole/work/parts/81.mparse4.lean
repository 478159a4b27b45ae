/-! the reference reads words, clauses, a whole text -/
theorem pG_j {g : Nat → Nat} {w : Nat} : ∀ k q i w' j, pG g w k q i = .inr (w', j) → w' = w ∧ j = i + k
  | 0, _, i, w', j, h => by
    have h' := Sum.inr.inj h
    have e1 : w = w' := congrArg Prod.fst h'
    have e2 : i = j := congrArg Prod.snd h'
    omega
  | k + 1, q, i, w', j, h => by
    replace h : (if g i = wl (4 * w + q) then pG g w k (q + 1) (i + 1) else .inl i) = .inr (w', j) := h
    by_cases c : g i = wl (4 * w + q)
    · rw [if_pos c] at h
      have := pG_j k (q + 1) (i + 1) w' j h
      omega
    · rw [if_neg c] at h
      cases h
theorem pC_all {Q : Er → Prop} (hQ : Clo Q) {g : Nat → Nat} {L : Nat} (hL : ∀ i, L ≤ i → g i = 200) {i j : Nat} {c : Cl} (h : pC g i = .inr (c, j)) : i < j ∧ j ≤ L ∧ i + c.2.2.1.length ≤ j ∧ c.1 < 4 ∧ c.2.1 ≤ 99 ∧ (c.1 < 2 → Q c.2.2) ∧ (¬ c.1 < 2 → c.2.2.1 = []) := by
  unfold pC at h
  cases hw : pW g i with
  | inl q => rw [hw] at h; cases h
  | inr y =>
    obtain ⟨w, j1⟩ := y
    obtain ⟨w1, w2⟩ := pG_j 4 0 i w j1 hw
    have w3 := wdo_lt g i
    rw [hw] at h
    replace h : (if g j1 = 32 then (match pN g (j1 + 1) with
      | .inl p => .inl p
      | .inr (n, j2) => if 2 ≤ w then .inr ((w, n, ([], fun _ => true)), j2) else if g j2 = 32 then (match pE (pS g 4) g (j2 + 1) with
        | .inl p => .inl p
        | .inr (e, j3) => .inr ((w, n, e), j3)) else .inl j2) else .inl j1 : Nat ⊕ (Cl × Nat)) = .inr (c, j) := h
    by_cases c1 : g j1 = 32
    · rw [if_pos c1] at h
      cases hn : pN g (j1 + 1) with
      | inl q => rw [hn] at h; cases h
      | inr y =>
        obtain ⟨n, j2⟩ := y
        obtain ⟨n1, n2, n3⟩ := pN_ok hL hn
        rw [hn] at h
        replace h : (if 2 ≤ w then .inr ((w, n, ([], fun _ => true)), j2) else if g j2 = 32 then (match pE (pS g 4) g (j2 + 1) with
          | .inl p => .inl p
          | .inr (e, j3) => .inr ((w, n, e), j3)) else .inl j2 : Nat ⊕ (Cl × Nat)) = .inr (c, j) := h
        by_cases c2 : 2 ≤ w
        · rw [if_pos c2] at h
          have h' := Sum.inr.inj h
          have e1 : ((w, n, ([], fun _ => true)) : Cl) = c := congrArg Prod.fst h'
          have e2 : j2 = j := congrArg Prod.snd h'
          subst e1 e2
          exact ⟨by omega, n2, (by show i + 0 ≤ j2; omega), (by show w < 4; omega), n3, fun q => absurd (show w < 2 from q) (by omega), fun _ => rfl⟩
        · rw [if_neg c2] at h
          by_cases c3 : g j2 = 32
          · rw [if_pos c3] at h
            cases he : pE (pS g 4) g (j2 + 1) with
            | inl q => rw [he] at h; cases h
            | inr y =>
              obtain ⟨e, j3⟩ := y
              obtain ⟨p1, p2, p3, p4⟩ := pE_ok hQ hL (fun i e j h => pS_ok hQ hL 4 i e j h) he
              rw [he] at h
              have h' := Sum.inr.inj h
              have e1 : ((w, n, e) : Cl) = c := congrArg Prod.fst h'
              have e2 : j3 = j := congrArg Prod.snd h'
              subst e1 e2
              exact ⟨by omega, p2, (by show i + e.1.length ≤ j3; omega), (by show w < 4; omega), n3, fun _ => p4, fun q => absurd (show w < 2 by omega) q⟩
          · rw [if_neg c3] at h; cases h
    · rw [if_neg c1] at h; cases h
def wdK : Mm → Option (Int32 × Mm) := fun (μ9 : Mm) => (F_M_takes 32 μ9).bind fun p_ => match p_ with | (v10, μ11) => (rZ v10).bind fun r_ => some (r_, μ11)
def HQ (g : Nat → Nat) (μ : Mm) (res : Option (Int32 × Mm)) (P : Nat ⊕ (Nat × Nat)) : Prop := match P with
  | .inl p => ∃ μ1, res = some (0, μ1) ∧ μ1 0 12 = nI p ∧ Fn μ μ1
  | .inr (_, j) => ∃ μ1, Fn μ μ1 ∧ ((g j = 32 ∧ res = some (1, μ1) ∧ μ1 0 12 = nI (j + 1)) ∨ (g j ≠ 32 ∧ res = some (0, μ1) ∧ μ1 0 12 = nI j))
theorem m_wordL {g : Nat → Nat} {w : Nat} (hw : w < 4) : ∀ k q i n x μ, x = nI q → q + k = 4 → k < n → GM g μ → LT μ → i + k ≤ 300 → μ 0 12 = nI i → HQ g μ (L_M_takesWord_2 (nI (4 * w)) 4 wdK n x μ) (pG g w k q i) := by
  intro k
  induction k with
  | zero =>
    intro q i n x μ hx hq hn G hl hi h
    obtain ⟨N1, rfl⟩ : ∃ N, n = N + 1 := ⟨n - 1, by omega⟩
    subst hx
    rw [L_M_takesWord_2, q4, ite_le (by omega) (by omega), if_pos (by omega)]
    show HQ g μ (wdK μ) (.inr (w, i))
    unfold wdK
    rcases m_takes (k := 32) (K := 32) G h (by omega) (by omega) rfl with ⟨c, μ1, a1, a2, a3⟩ | ⟨c, a1⟩
    · rw [a1, Option.bind_some]
      exact ⟨μ1, a2, Or.inl ⟨c, by show ((rZ 1).bind fun r_ => some (r_, μ1)) = _; rw [rZ_1]; rfl, a3⟩⟩
    · rw [a1, Option.bind_some]
      exact ⟨μ, Fn.rf, Or.inr ⟨c, by show ((rZ 0).bind fun r_ => some (r_, μ)) = _; rw [rZ_0]; rfl, h⟩⟩
  | succ k ih =>
    intro q i n x μ hx hq hn G hl hi h
    obtain ⟨N1, rfl⟩ : ∃ N, n = N + 1 := ⟨n - 1, by omega⟩
    subst hx
    have hm := wordT_wl (4 * w + q) (by omega)
    rw [L_M_takesWord_2, q4, ite_le (by omega) (by omega), if_neg (by omega), nI_add, rdI_nI (by omega) (by omega), Option.bind_some, hl _ (by omega), hm.1]
    show HQ g μ _ (if g i = wl (4 * w + q) then pG g w k (q + 1) (i + 1) else .inl i)
    rcases m_takes (k := wl (4 * w + q)) (K := nI (wl (4 * w + q))) G h (by omega) hm.2 rfl with ⟨c, μ1, a1, a2, a3⟩ | ⟨c, a1⟩
    · have hl1 : LT μ1 := fun j hj => by rw [a2.1 25 (by omega)]; exact hl j hj
      have W := ih (q + 1) (i + 1) N1 (nI q + 1) μ1 (nI_1 q) (by omega) (by omega) (a2.g G) hl1 (by omega) a3
      rw [a1, Option.bind_some, if_pos c]
      simp only [if_neg one_ne]
      cases hp : pG g w k (q + 1) (i + 1) with
      | inl p =>
        rw [hp] at W
        obtain ⟨μ2, b1, b2, b3⟩ := W
        exact ⟨μ2, b1, b2, a2.tr b3⟩
      | inr y =>
        obtain ⟨w', j⟩ := y
        rw [hp] at W
        obtain ⟨μ2, b1, b2⟩ := W
        exact ⟨μ2, a2.tr b1, b2⟩
    · rw [a1, Option.bind_some, if_neg c]
      exact ⟨μ, rfl, h, Fn.rf⟩
theorem m_head {g : Nat → Nat} {μ : Mm} {i C : Nat} (G : GM g μ) (hl : LT μ) (hi : i ≤ 100) (h : μ 0 12 = nI i) (hC : C < 60) : HQ g (up2 μ 16 C (nI (wdo g i))) (F_M_takesHead (nI C) μ) (pW g i) := by
  have run : ∀ w, w < 4 → HQ g (up2 μ 16 C (nI w)) (((L_M_takesWord_2 (nI (4 * w)) 4 wdK fu 0 (up2 μ 16 C (nI w)))).bind fun p_ => match p_ with | (v4, μ5) => (rZ v4).bind fun r_ => some (r_, μ5)) (pG g w 4 0 i) := fun w hw => by
    have W := m_wordL (g := g) hw 4 0 i fu 0 (up2 μ 16 C (nI w)) rfl (by omega) (fu_gt (by omega)) (G.mv (u_cf (by omega)) (u_nc (by omega))) (fun j hj => by rw [u_nc (by omega)]; exact hl j hj) (by omega) ((u_nc (by omega)).trans h)
    cases hp : pG g w 4 0 i with
    | inl p =>
      rw [hp] at W
      obtain ⟨μ2, b1, b2, b3⟩ := W
      rw [b1, Option.bind_some]
      exact ⟨μ2, by show ((rZ 0).bind fun r_ => some (r_, μ2)) = _; rw [rZ_0]; rfl, b2, b3⟩
    | inr y =>
      obtain ⟨w', j⟩ := y
      rw [hp] at W
      obtain ⟨μ2, b1, b2⟩ := W
      rcases b2 with ⟨c, b2, b3⟩ | ⟨c, b2, b3⟩
      · rw [b2, Option.bind_some]
        exact ⟨μ2, b1, Or.inl ⟨c, by show ((rZ 1).bind fun r_ => some (r_, μ2)) = _; rw [rZ_1]; rfl, b3⟩⟩
      · rw [b2, Option.bind_some]
        exact ⟨μ2, b1, Or.inr ⟨c, by show ((rZ 0).bind fun r_ => some (r_, μ2)) = _; rw [rZ_0]; rfl, b3⟩⟩
  unfold F_M_takesHead pW wdo
  rw [m_next G h (by omega), Option.bind_some, ite_s (K := 104) (G.lt i) (k := 104) (by omega) rfl, ite_s (K := 119) (G.lt i) (k := 119) (by omega) rfl]
  by_cases c1 : g i = 104
  · rw [if_pos c1, if_pos c1, wrI_nI hC (by omega), Option.bind_some]
    exact run 1 (by omega)
  · rw [if_neg c1, if_neg c1]
    by_cases c2 : g i = 119
    · rw [if_pos c2, if_pos c2, wrI_nI hC (by omega), Option.bind_some]
      exact run 2 (by omega)
    · rw [if_neg c2, if_neg c2, m_second G h (by omega), Option.bind_some, jn_e, ite_s (K := 111) (G.lt (i + 1)) (k := 111) (by omega) rfl]
      by_cases c3 : g (i + 1) = 111
      · rw [if_pos c3, if_pos c3]
        simp only []
        rw [wrI_nI hC (by omega), Option.bind_some, rdI_nI hC (by omega), u_eq rfl rfl, Option.bind_some, if_pos rfl]
        exact run 3 (by omega)
      · rw [if_neg c3, if_neg c3]
        simp only []
        rw [wrI_nI hC (by omega), Option.bind_some, rdI_nI hC (by omega), u_eq rfl rfl, Option.bind_some, if_neg (by decide)]
        exact run 0 (by omega)
/-! one E into the tables -/
theorem m_takesE {g : Nat → Nat} {c B i S : Nat} {μ : Mm} (hB : B ≤ 500) (hc : c < 60) (G : GM g μ) (hi : i ≤ 100) (h12 : μ 0 12 = nI i) (h22 : μ 0 22 = nI S) (hS : S ≤ B + i) : match pE (pS g 4) g i with
  | .inl p => ∃ μ1, F_M_takesE (nI c) μ = some (0, μ1) ∧ μ1 0 12 = nI p ∧ FE c S 0 (up2 μ 18 c (nI S)) μ1
  | .inr (e, j) => ∃ μ1, F_M_takesE (nI c) μ = some (1, μ1) ∧ μ1 0 12 = nI j ∧ μ1 0 22 = nI (S + e.1.length) ∧ μ1 19 c = nI (S + e.1.length) ∧ Rp (μ1 20) S e.1 ∧ FE c S 0 (up2 μ 18 c (nI S)) μ1 := by
  have e22 : up2 (up2 μ 0 23 0) 0 24 0 0 22 = nI S := by rw [u_nj (by omega), u_nj (by omega)]; exact h22
  obtain ⟨μa, hμ⟩ : ∃ μa, μa = up2 (up2 (up2 μ 0 23 0) 0 24 0) 18 c (nI S) := ⟨_, rfl⟩
  have Ga : GM g μa := G.mv (by rw [hμ, u_cf (by omega), u_cf (by omega), u_cf (by omega)]) (by rw [hμ, u_nc (by omega), u_nj (by omega), u_nj (by omega)])
  have ha : SE i S 0 0 μa := ⟨by rw [hμ, u_nc (by omega), u_nj (by omega), u_nj (by omega)]; exact h12, by rw [hμ, u_nc (by omega)]; exact e22, by rw [hμ, u_nc (by omega), u_nj (by omega)]; exact u_eq rfl rfl, by rw [hμ, u_nc (by omega)]; exact u_eq rfl rfl⟩
  have run : F_M_takesE (nI c) μ = L_M_takesE_22 (nI c) K0 fu 1 μa := by
    unfold F_M_takesE
    rw [lt_e, lt_e, e22, wrI_nI hc (by omega), Option.bind_some, ← hμ]
    rfl
  have V := m_eL (c := c) (B := B) (r := 4) (g := g) hB (Nat.le_refl _) (fun i w0 S μ n G hi h hS hw hN hn => m_wL hB hc 4 (Nat.le_refl _) i w0 0 0 S μ n (by omega) G hi h (by omega) (by omega) hN (fun q q1 q2 => by omega) hn) (i := i) (n := fu) (S0 := S) (wb := 0) (μ := μa) Ga hi ha (by omega) (by omega) (Or.inl rfl) (fu_gt (by omega))
  have Fa : FE c S 0 (up2 μ 18 c (nI S)) μa := by
    refine ⟨fun x hx => ?_, fun j hj => ?_, fun q _ => ?_, fun q _ => ?_, fun q hq => absurd hq (Nat.not_lt_zero q)⟩
    · rw [hμ]
      by_cases c18 : x = 18
      · subst c18
        funext q
        by_cases cq : q = c
        · rw [u_eq rfl cq, u_eq rfl cq]
        · rw [u_nj cq, u_nj cq, u_nc (by omega), u_nc (by omega)]
      · rw [u_cf c18, u_cf hx.1, u_cf hx.1, u_cf c18]
    · rw [hμ, u_nc (by omega), u_nj (by omega), u_nj (by omega), u_nc (by omega)]
    · rw [hμ, u_nc (by omega), u_nc (by omega), u_nc (by omega), u_nc (by omega)]
    · rw [hμ, u_nc (by omega), u_nc (by omega), u_nc (by omega), u_nc (by omega)]
  rw [run]
  cases hp : pE (pS g 4) g i with
  | inl p =>
    rw [hp] at V
    obtain ⟨μ1, a1, a2, a3⟩ := V
    exact ⟨μ1, a1, a2, Fa.tr a3 (Nat.le_refl _) (Nat.le_refl _) (Nat.le_refl _) (Nat.le_refl _)⟩
  | inr y =>
    obtain ⟨e, j⟩ := y
    rw [hp] at V
    obtain ⟨n1, μ1, a1, a2, a3, a4, a5⟩ := V
    have e23 : up2 μ1 19 c (nI (S + e.1.length)) 0 23 = 0 := (u_nc (by omega)).trans a3.2.2.1
    have fin : eF c n1 (sI (g j)) μ1 = some (1, up2 μ1 19 c (nI (S + e.1.length))) := by
      unfold eF
      rw [a3.2.1, wrI_nI hc (by omega), Option.bind_some, e23, if_pos rfl]
    refine ⟨_, a1.trans fin, (u_nc (by omega)).trans a3.1, (u_nc (by omega)).trans a3.2.1, u_eq rfl rfl, by rw [u_cf (by omega)]; exact a4, ?_⟩
    exact (Fa.tr a5 (Nat.le_refl _) (Nat.le_refl _) (Nat.le_refl _) (Nat.le_refl _)).u19
/-! clauses -/
def FC (C Q : Nat) (μ μ1 : Mm) : Prop := (∀ x, x ≠ 0 → (x < 16 ∨ 21 < x) → μ1 x = μ x) ∧ (∀ j, (j ≠ 12 ∧ j ≠ 13 ∧ j ≠ 22 ∧ j ≠ 23 ∧ j ≠ 24) → μ1 0 j = μ 0 j) ∧ (∀ x, 16 ≤ x → x ≤ 19 → ∀ q, q ≠ C → μ1 x q = μ x q) ∧ ∀ q, q < Q → μ1 20 q = μ 20 q
theorem FC.tr {C Q : Nat} {μ μ1 μ2 : Mm} (h1 : FC C Q μ μ1) (h2 : FC C Q μ1 μ2) : FC C Q μ μ2 := ⟨fun x a b => (h2.1 x a b).trans (h1.1 x a b), fun j a => (h2.2.1 j a).trans (h1.2.1 j a), fun x a b q c => (h2.2.2.1 x a b q c).trans (h1.2.2.1 x a b q c), fun q a => (h2.2.2.2 q a).trans (h1.2.2.2 q a)⟩
theorem FC.rf {C Q : Nat} {μ : Mm} : FC C Q μ μ := ⟨fun _ _ _ => rfl, fun _ _ => rfl, fun _ _ _ _ _ => rfl, fun _ _ => rfl⟩
theorem FC.fn {C Q : Nat} {μ μ1 : Mm} (h : Fn μ μ1) : FC C Q μ μ1 := ⟨fun x a _ => h.1 x a, fun j a => h.2 j a.1 a.2.1, fun x a _ q _ => by rw [h.1 x (by omega)], fun q _ => by rw [h.1 20 (by omega)]⟩
theorem FC.up {C Q y : Nat} {v : Int32} {μ : Mm} (hy : 16 ≤ y ∧ y ≤ 19) : FC C Q μ (up2 μ y C v) := ⟨fun x _ b => u_cf (by omega), fun j _ => u_nc (by omega), fun x _ _ q c => u_nj c, fun q _ => u_nc (by omega)⟩
theorem FC.fe {C Q W : Nat} {μ μ1 : Mm} (h : FE C Q W μ μ1) : FC C Q μ μ1 := ⟨fun x a b => h.1 x (by omega), h.2.1, fun x a b q c => by
  by_cases e : x = 19
  · rw [e]; exact h.2.2.1 q c
  · rw [h.1 x (by omega)], h.2.2.2.1⟩
theorem FC.g {C Q : Nat} {g : Nat → Nat} {μ μ1 : Mm} (h : FC C Q μ μ1) (G : GM g μ) : GM g μ1 := G.mv (h.1 14 (by omega) (by omega)) (h.2.1 11 (by omega))
def TB (C : Nat) (c : Cl) (a : Nat) (μ : Mm) : Prop := μ 16 C = nI c.1 ∧ μ 17 C = nI c.2.1 ∧ (c.1 < 2 → μ 18 C = nI a ∧ μ 19 C = nI (a + c.2.2.1.length) ∧ Rp (μ 20) a c.2.2.1)
theorem TB.mv {C a : Nat} {c : Cl} {μ μ1 : Mm} (h : TB C c a μ) (h1 : ∀ x, 16 ≤ x → x ≤ 19 → μ1 x C = μ x C) (h2 : ∀ q, a ≤ q → q < a + c.2.2.1.length → μ1 20 q = μ 20 q) : TB C c a μ1 := by
  obtain ⟨a1, a2, a3⟩ := h
  refine ⟨(h1 16 (by omega) (by omega)).trans a1, (h1 17 (by omega) (by omega)).trans a2, fun k => ?_⟩
  obtain ⟨b1, b2, b3⟩ := a3 k
  exact ⟨(h1 18 (by omega) (by omega)).trans b1, (h1 19 (by omega) (by omega)).trans b2, b3.mv h2⟩
def CQ (C S : Nat) (μ : Mm) (res : Option (Int32 × Mm)) (P : Nat ⊕ (Cl × Nat)) : Prop := match P with
  | .inl p => ∃ μ1, res = some (0, μ1) ∧ μ1 0 12 = nI p ∧ FC C S μ μ1
  | .inr (c, j) => ∃ μ1, res = some (1, μ1) ∧ μ1 0 12 = nI j ∧ μ1 0 22 = nI (S + c.2.2.1.length) ∧ TB C c S μ1 ∧ FC C S μ μ1
theorem m_clause {g : Nat → Nat} {C B i S : Nat} {μ : Mm} (hB : B ≤ 500) (hC : C < 60) (G : GM g μ) (hl : LT μ) (hi : i ≤ 100) (h12 : μ 0 12 = nI i) (h22 : μ 0 22 = nI S) (hS : S ≤ B + i) : CQ C S μ (F_M_takesClause (nI C) μ) (pC g i) := by
  have H := m_head (C := C) G hl hi h12 hC
  have hw3 := wdo_lt g i
  unfold F_M_takesClause pC
  cases hw : pW g i with
  | inl p =>
    rw [hw] at H
    obtain ⟨μ1, a1, a2, a3⟩ := H
    rw [a1, Option.bind_some]
    exact ⟨μ1, rfl, a2, (FC.up (by omega)).tr (FC.fn a3)⟩
  | inr y =>
    obtain ⟨w, j1⟩ := y
    obtain ⟨w1, w2⟩ := pG_j 4 0 i w j1 hw
    rw [hw] at H
    obtain ⟨μ1, a1, a2⟩ := H
    have F1 : FC C S μ μ1 := (FC.up (y := 16) (by omega)).tr (FC.fn a1)
    have e16 : μ1 16 C = nI w := by rw [a1.1 16 (by omega), u_eq rfl rfl, w1]
    have G1 := F1.g G
    show CQ C S μ _ (if g j1 = 32 then (match pN g (j1 + 1) with
      | .inl p => .inl p
      | .inr (n, j2) => if 2 ≤ w then .inr ((w, n, ([], fun _ => true)), j2) else if g j2 = 32 then (match pE (pS g 4) g (j2 + 1) with
        | .inl p => .inl p
        | .inr (e, j3) => .inr ((w, n, e), j3)) else .inl j2) else .inl j1)
    rcases a2 with ⟨c1, a2, a3⟩ | ⟨c1, a2, a3⟩
    · obtain ⟨r, μ2, n1, n2, n3⟩ := m_num G1 a3 (by omega)
      have F2 : FC C S μ μ2 := F1.tr (FC.fn n2)
      rw [a2, Option.bind_some, if_pos c1]
      show CQ C S μ ((F_M_takesNumber μ1).bind fun p_ => match p_ with | (v4, μ5) => (if v4 = 0 then some (0, μ5) else (wrI μ5 17 60 (nI C) (μ5 0 13)).bind fun μ7 => (rdI (μ7 16) 60 (nI C)).bind fun v8 => jn (α := Mm) (fun K16 => (if 2 ≤ v8 then K16 μ7 else (F_M_takes 32 μ7).bind fun p_ => match p_ with | (v9, μ10) => (if v9 = 0 then some (0, μ10) else (F_M_takesE (nI C) μ10).bind fun p_ => match p_ with | (v12, μ13) => (if v12 = 0 then some (0, μ13) else K16 μ13)))) (fun (μ15 : Mm) => some (1, μ15)))) _
      rw [n1, Option.bind_some]
      cases hn : pN g (j1 + 1) with
      | inl q =>
        rw [hn] at n3
        obtain ⟨n4, n5⟩ := n3
        subst n4
        exact ⟨μ2, rfl, n5, F2⟩
      | inr y =>
        obtain ⟨n, j2⟩ := y
        obtain ⟨k1, k2, k3⟩ := pN_ok G.e hn
        rw [hn] at n3
        obtain ⟨n4, n5, n6⟩ := n3
        subst n4
        have F3 : FC C S μ (up2 μ2 17 C (nI n)) := F2.tr (FC.up (by omega))
        have e16' : up2 μ2 17 C (nI n) 16 C = nI w := by rw [u_nc (by omega), n2.1 16 (by omega)]; exact e16
        have e17 : up2 μ2 17 C (nI n) 17 C = nI n := u_eq rfl rfl
        have e12 : up2 μ2 17 C (nI n) 0 12 = nI j2 := (u_nc (by omega)).trans n5
        have e22 : up2 μ2 17 C (nI n) 0 22 = nI S := by rw [u_nc (by omega), n2.2 22 (by omega) (by omega), a1.2 22 (by omega) (by omega), u_nc (by omega)]; exact h22
        have G3 := F3.g G
        show CQ C S μ (if (1 : Int32) = 0 then some (0, μ2) else (wrI μ2 17 60 (nI C) (μ2 0 13)).bind fun μ7 => (rdI (μ7 16) 60 (nI C)).bind fun v8 => jn (α := Mm) (fun K16 => (if 2 ≤ v8 then K16 μ7 else (F_M_takes 32 μ7).bind fun p_ => match p_ with | (v9, μ10) => (if v9 = 0 then some (0, μ10) else (F_M_takesE (nI C) μ10).bind fun p_ => match p_ with | (v12, μ13) => (if v12 = 0 then some (0, μ13) else K16 μ13)))) (fun (μ15 : Mm) => some (1, μ15))) (if 2 ≤ w then .inr ((w, n, ([], fun _ => true)), j2) else if g j2 = 32 then (match pE (pS g 4) g (j2 + 1) with
          | .inl p => .inl p
          | .inr (e, j3) => .inr ((w, n, e), j3)) else .inl j2)
        rw [if_neg one_ne, n6, wrI_nI hC (by omega), Option.bind_some, rdI_nI hC (by omega), e16', Option.bind_some, jn_e, q2, ite_le (by omega) (by omega)]
        by_cases c2 : 2 ≤ w
        · rw [if_pos c2, if_pos c2]
          exact ⟨_, rfl, e12, e22, ⟨e16', e17, fun q => absurd (show w < 2 from q) (by omega)⟩, F3⟩
        · rw [if_neg c2, if_neg c2]
          rcases m_takes (k := 32) (K := 32) G3 e12 (by omega) (by omega) rfl with ⟨c3, μ4, b1, b2, b3⟩ | ⟨c3, b1⟩
          · have F4 : FC C S μ μ4 := F3.tr (FC.fn b2)
            have T := m_takesE (c := C) (B := B) (i := j2 + 1) (S := S) hB hC (F4.g G) (by have := G.in (i := j2) (by omega); omega) b3 ((b2.2 22 (by omega) (by omega)).trans e22) (by omega)
            rw [b1, Option.bind_some, if_pos c3]
            show CQ C S μ ((F_M_takesE (nI C) μ4).bind fun p_ => match p_ with | (v12, μ13) => (if v12 = 0 then some (0, μ13) else some (1, μ13))) _
            cases he : pE (pS g 4) g (j2 + 1) with
            | inl p =>
              rw [he] at T
              obtain ⟨μ5, d1, d2, d3⟩ := T
              rw [d1, Option.bind_some]
              exact ⟨μ5, rfl, d2, (F4.tr (FC.up (by omega))).tr (FC.fe d3)⟩
            | inr y =>
              obtain ⟨e, j3⟩ := y
              rw [he] at T
              obtain ⟨μ5, d1, d2, d3, d4, d5, d6⟩ := T
              rw [d1, Option.bind_some]
              refine ⟨μ5, rfl, d2, d3, ⟨?_, ?_, fun _ => ⟨?_, d4, d5⟩⟩, (F4.tr (FC.up (by omega))).tr (FC.fe d6)⟩
              · rw [d6.1 16 (by omega), u_nc (by omega), b2.1 16 (by omega)]; exact e16'
              · rw [d6.1 17 (by omega), u_nc (by omega), b2.1 17 (by omega)]; exact e17
              · rw [d6.1 18 (by omega)]; exact u_eq rfl rfl
          · rw [b1, Option.bind_some, if_neg c3]
            exact ⟨_, rfl, e12, F3⟩
    · rw [a2, Option.bind_some, if_neg c1]
      exact ⟨μ1, rfl, a3, F1⟩
