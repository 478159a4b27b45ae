/-! the class reads a whole text -/
def rdK : Mm → Option (Int32 × Mm) := fun (μ10 : Mm) => jn (α := Mm) (fun K16 => (if (μ10 1 5) = (-1) then K16 μ10 else (F_Rooms_fails μ10).bind fun μ11 => K16 μ11)) (fun (μ13 : Mm) => lt_ (if 0 < (μ13 1 11) then (μ13 1 11) else 0) fun x14 => lt_ (up2 μ13 1 11 x14) fun μ15 => some ((μ15 1 6), μ15))
theorem rdK_s {μ : Mm} (hs : μ 1 5 = -1) : rdK μ = some (up2 μ 1 11 (if 0 < μ 1 11 then μ 1 11 else 0) 1 6, up2 μ 1 11 (if 0 < μ 1 11 then μ 1 11 else 0)) := by
  unfold rdK
  rw [jn_e, if_pos hs]
  exact Eq.trans (lt_e _ _) (lt_e _ _)
theorem rdK_E {μ0 μ : Mm} {q : Nat} (h : ERs μ0 q μ) : ∃ μ1, rdK μ = some (nI q, μ1) ∧ Bs μ0 μ1 := by
  have e := h.m (j := 11) (x := if 0 < μ 1 11 then μ 1 11 else 0) (by omega)
  rw [rdK_s h.2.2.1, e.2.2.2]
  exact ⟨_, rfl, e.1⟩
theorem cl1_b {en : Nat → Nat} {c : Cl} {m : Mo} {B : Nat} (hc : c.2.1 ≤ 99) (h1 : m.1 ≤ B) (h2 : m.2.1 ≤ B) (h3 : 1 ≤ m.2.2.1 ∧ m.2.2.1 ≤ 99) (h4 : 1 ≤ m.2.2.2 ∧ m.2.2.2 ≤ 99) : (cl1 en c m).1 ≤ B + 99 ∧ (cl1 en c m).2.1 ≤ B + 99 ∧ (1 ≤ (cl1 en c m).2.2.1 ∧ (cl1 en c m).2.2.1 ≤ 99) ∧ (1 ≤ (cl1 en c m).2.2.2 ∧ (cl1 en c m).2.2.2 ≤ 99) := by
  have hm : 1 ≤ max 1 c.2.1 ∧ max 1 c.2.1 ≤ 99 := by omega
  unfold cl1
  split
  · exact ⟨by show m.1 ≤ _; omega, by show m.2.1 ≤ _; omega, hm, h4⟩
  · split
    · exact ⟨by show m.1 ≤ _; omega, by show m.2.1 ≤ _; omega, h3, hm⟩
    · split
      · split
        · exact ⟨by show m.1 + c.2.1 ≤ _; omega, by show m.2.1 ≤ _; omega, h3, h4⟩
        · exact ⟨by show m.1 ≤ _; omega, by show m.2.1 + c.2.1 ≤ _; omega, h3, h4⟩
      · exact ⟨by omega, by omega, h3, h4⟩
/-- the clauses are few, and their numbers small -/
def goodC (cs : List Cl) : Prop := ∀ c, c ∈ cs → c.1 < 4 ∧ c.2.1 ≤ 99
theorem cls_b {en : Nat → Nat} : ∀ (cs : List Cl) (m : Mo) (B : Nat), goodC cs → m.1 ≤ B → m.2.1 ≤ B → (1 ≤ m.2.2.1 ∧ m.2.2.1 ≤ 99) → (1 ≤ m.2.2.2 ∧ m.2.2.2 ≤ 99) → (cls en cs m).1 ≤ B + 99 * cs.length ∧ (cls en cs m).2.1 ≤ B + 99 * cs.length ∧ (1 ≤ (cls en cs m).2.2.1 ∧ (cls en cs m).2.2.1 ≤ 99) ∧ (1 ≤ (cls en cs m).2.2.2 ∧ (cls en cs m).2.2.2 ≤ 99)
  | [], m, B, _, h1, h2, h3, h4 => ⟨h1, h2, h3, h4⟩
  | c :: cs, m, B, hg, h1, h2, h3, h4 => by
    have k := cl1_b (en := en) (hg c (List.mem_cons_self ..)).2 h1 h2 h3 h4
    obtain ⟨r1, r2, r3, r4⟩ := cls_b (en := en) cs (cl1 en c m) (B + 99) (fun x hx => hg x (List.mem_cons_of_mem c hx)) k.1 k.2.1 k.2.2.1 k.2.2.2
    show (cls en cs (cl1 en c m)).1 ≤ B + 99 * (cs.length + 1) ∧ (cls en cs (cl1 en c m)).2.1 ≤ B + 99 * (cs.length + 1) ∧ _
    exact ⟨by omega, by omega, r3, r4⟩
theorem pR_ok {g : Nat → Nat} (hL : ∀ i, 100 ≤ i → g i = 200) : ∀ m j cs, j ≤ 100 → pR g m j = .inr cs → goodC cs ∧ cs.length ≤ m := by
  have nilC : ∀ cs : List Cl, ([] : List Cl) = cs → goodC cs ∧ cs.length = 0 := fun cs h => by
    subst h
    exact ⟨fun c hc => absurd hc List.not_mem_nil, rfl⟩
  intro m
  induction m with
  | zero =>
    intro j cs hj h
    replace h : (if g j = 200 then .inr [] else .inl j : Nat ⊕ List Cl) = .inr cs := h
    by_cases c : g j = 200
    · rw [if_pos c] at h
      obtain ⟨a, b⟩ := nilC cs (Sum.inr.inj h)
      exact ⟨a, by omega⟩
    · rw [if_neg c] at h; cases h
  | succ m ih =>
    intro j cs hj h
    replace h : (if g j = 200 then .inr [] else if g j = 59 then (match pC g (j + 1) with
      | .inl p => .inl p
      | .inr (c, j') => cns c (pR g m j')) else .inl j : Nat ⊕ List Cl) = .inr cs := h
    by_cases c : g j = 200
    · rw [if_pos c] at h
      obtain ⟨a, b⟩ := nilC cs (Sum.inr.inj h)
      exact ⟨a, by omega⟩
    · rw [if_neg c] at h
      by_cases c2 : g j = 59
      · have : j < 100 := Nat.lt_of_not_le (fun x => c (hL j x))
        rw [if_pos c2] at h
        cases hc : pC g (j + 1) with
        | inl q => rw [hc] at h; cases h
        | inr y =>
          obtain ⟨cl, j'⟩ := y
          obtain ⟨d1, d2, d3⟩ := pC_ok hL (by omega) hc
          rw [hc] at h
          replace h : (match pR g m j' with
            | .inl p => .inl p
            | .inr cs => .inr (cl :: cs) : Nat ⊕ List Cl) = .inr cs := h
          cases hr : pR g m j' with
          | inl q => rw [hr] at h; cases h
          | inr cs' =>
            rw [hr] at h
            have h' : cl :: cs' = cs := Sum.inr.inj h
            subst h'
            obtain ⟨e1, e2⟩ := ih j' cs' d1 hr
            refine ⟨fun x hx => ?_, by show cs'.length + 1 ≤ m + 1; omega⟩
            rcases List.mem_cons.mp hx with q | q
            · rw [q]; exact ⟨d2, d3⟩
            · exact e1 x q
      · rw [if_neg c2] at h; cases h
theorem pX_ok {g : Nat → Nat} (hL : ∀ i, 100 ≤ i → g i = 200) {cs : List Cl} (h : pX g = .inr cs) : goodC cs ∧ cs.length ≤ 10 := by
  unfold pX at h
  cases hc : pC g 0 with
  | inl q => rw [hc] at h; cases h
  | inr y =>
    obtain ⟨cl, j'⟩ := y
    obtain ⟨d1, d2, d3⟩ := pC_ok hL (by omega) hc
    rw [hc] at h
    replace h : (match pR g 9 j' with
      | .inl p => .inl p
      | .inr cs => .inr (cl :: cs) : Nat ⊕ List Cl) = .inr cs := h
    cases hr : pR g 9 j' with
    | inl q => rw [hr] at h; cases h
    | inr cs' =>
      rw [hr] at h
      have h' : cl :: cs' = cs := Sum.inr.inj h
      subst h'
      obtain ⟨e1, e2⟩ := pR_ok hL 9 j' cs' d1 hr
      refine ⟨fun x hx => ?_, by show cs'.length + 1 ≤ 10; omega⟩
      rcases List.mem_cons.mp hx with q | q
      · rw [q]; exact ⟨d2, d3⟩
      · exact e1 x q
/-- what the whole reading comes to -/
def RW (en : Nat → Nat) (m : Mo) (P : Nat ⊕ List Cl) (r : Int32) (μ : Mm) : Prop := match P with
  | .inl q => q ≤ 1000 ∧ r = nI q
  | .inr cs => r = -1 ∧ μ 1 11 = nI ((cls en cs m).1 - (cls en cs m).2.1) ∧ μ 1 12 = nI (cls en cs m).2.2.1 ∧ μ 1 13 = nI (cls en cs m).2.2.2
def RQ (μ0 : Mm) (en : Nat → Nat) (m : Mo) (P : Nat ⊕ List Cl) (r : Int32) (μ : Mm) : Prop := Bs μ0 μ ∧ RW en m P r μ
theorem rdK_ok {g : Nat → Nat} {μ0 μ : Mm} {en : Nat → Nat} {j : Nat} {m : Mo} (h : OKs g μ0 j μ) (hm : MS m μ) (h1 : m.1 < 1073741824) (h2 : m.2.1 < 1073741824) (h200 : g j = 200) : ∃ r μ1, rdK μ = some (r, μ1) ∧ RQ μ0 en m (.inr []) r μ1 := by
  have hs : μ 1 5 = -1 := by
    rw [h.2.2.1, h200]
    rfl
  have e := h.m (j := 11) (x := nI (m.1 - m.2.1)) (by omega)
  rw [rdK_s hs, hm.1, mx0 h1 h2]
  exact ⟨_, _, rfl, e.1, e.2.2.2, u_eq rfl rfl, (u_nj (by omega)).trans hm.2.1, (u_nj (by omega)).trans hm.2.2⟩
theorem RW.c {en : Nat → Nat} {c : Cl} {m : Mo} {P : Nat ⊕ List Cl} {r : Int32} {μ : Mm} (h : RW en (cl1 en c m) P r μ) : RW en m (cns c P) r μ := by
  cases P with
  | inl x => exact h
  | inr cs => exact h
theorem rdK_f {g : Nat → Nat} {μ0 μ : Mm} (G : GT g μ0) {j : Nat} (hj : j ≤ 1000) (h : OKs g μ0 j μ) (h200 : ¬ g j = 200) : ∃ μ1, rdK μ = some (nI j, μ1) ∧ Bs μ0 μ1 := by
  have hs : ¬ μ 1 5 = -1 := by
    rw [h.2.2.1]
    unfold sI
    rw [if_neg h200]
    rcases G.lt j with q | q
    · exact nI_m1 (by omega)
    · exact absurd q h200
  obtain ⟨μ1, a1, a2, a3⟩ := h.fails
  have e : rdK μ = (F_Rooms_fails μ).bind fun μ13 => lt_ (if 0 < (μ13 1 11) then (μ13 1 11) else 0) fun x14 => lt_ (up2 μ13 1 11 x14) fun μ15 => some ((μ15 1 6), μ15) := by
    unfold rdK
    rw [jn_e, if_neg hs]
  rw [e, a1, Option.bind_some, lt_e]
  have k := a2.m (j := 11) (x := if 0 < μ1 1 11 then μ1 1 11 else 0) (by omega)
  refine ⟨_, Eq.trans (lt_e _ _) ?_, k.1⟩
  rw [k.2.2.2]
theorem x_readsL {g : Nat → Nat} {μ0 : Mm} (G : GT g μ0) {p d kd v : Nat} (E : EN p d kd v μ0) : ∀ m n q j μ M, q + m = 10 → 0 < q → m < n → j ≤ 100 → OKs g μ0 j μ → MS M μ → M.1 ≤ 3 + 99 * q → M.2.1 ≤ 3 + 99 * q → (1 ≤ M.2.2.1 ∧ M.2.2.1 ≤ 99) → (1 ≤ M.2.2.2 ∧ M.2.2.2 ≤ 99) → ∃ r μ1, L_Rooms_reads_30 rdK n (nI q) μ = some (r, μ1) ∧ RQ μ0 (en p d kd v) M (pR g m j) r μ1 := by
  intro m
  induction m with
  | zero =>
    intro n q j μ M hq h0 hn hj h hm b1 b2 b3 b4
    obtain ⟨N1, rfl⟩ : ∃ N, n = N + 1 := ⟨n - 1, by omega⟩
    rw [L_Rooms_reads_30, q10, ite_le (by omega) (by omega), if_pos (by omega)]
    show ∃ r μ1, rdK μ = some (r, μ1) ∧ RQ μ0 (en p d kd v) M (if g j = 200 then .inr [] else .inl j) r μ1
    by_cases c : g j = 200
    · rw [if_pos c]
      exact rdK_ok h hm (by omega) (by omega) c
    · obtain ⟨μ1, a1, a2⟩ := rdK_f G (by omega) h c
      rw [if_neg c]
      exact ⟨_, μ1, a1, a2, (by omega : j ≤ 1000), rfl⟩
  | succ m ih =>
    intro n q j μ M hq h0 hn hj h hm b1 b2 b3 b4
    obtain ⟨N1, rfl⟩ : ∃ N, n = N + 1 := ⟨n - 1, by omega⟩
    have hg := G.lt j
    rw [L_Rooms_reads_30, q10, q0, ite_le (by omega) (by omega), if_neg (show ¬ 10 ≤ q by omega), jn_e, ite_eq (by omega) (by omega), if_neg (show ¬ q = 0 by omega), h.2.2.1, ite_s (K := 59) hg (k := 59) (by omega) rfl]
    show ∃ r μ1, (if g j = 59 then _ else rdK μ) = some (r, μ1) ∧ RQ μ0 (en p d kd v) M (if g j = 200 then .inr [] else if g j = 59 then (match pC g (j + 1) with
      | .inl p => .inl p
      | .inr (c, j') => cns c (pR g m j')) else .inl j) r μ1
    by_cases c2 : g j = 59
    · have : j < 100 := Nat.lt_of_not_le (fun x => by rw [G.e j x] at c2; omega)
      obtain ⟨μ1, s1, s2, s3⟩ := h.steps G (by omega)
      obtain ⟨μ2, t1, t2⟩ := x_clause G E (i := j + 1) (by omega) s2 (hm.m3 s3)
      rw [if_pos c2, if_neg (show ¬ g j = 200 by omega), if_pos c2, s1]
      show ∃ r μ1', ((F_Rooms_clause μ1).bind fun μ7 => L_Rooms_reads_30 rdK N1 (nI q + 1) μ7) = some (r, μ1') ∧ _
      rw [t1, Option.bind_some, nI_1]
      cases hc : pC g (j + 1) with
      | inl x =>
        rw [hc] at t2
        obtain ⟨N2, rfl⟩ : ∃ N, N1 = N + 1 := ⟨N1 - 1, by omega⟩
        obtain ⟨μ3, u1, u2⟩ := rdK_E t2.2
        rw [L_Rooms_reads_30, q10, q0, ite_le (by omega) (by omega), jn_e, ite_eq (by omega) (by omega), if_neg (show ¬ q + 1 = 0 by omega), t2.2.2.2.1, if_neg (show ¬ (-1 : Int32) = 59 by decide), ite_self, u1]
        exact ⟨_, μ3, rfl, u2, t2.1, rfl⟩
      | inr y =>
        obtain ⟨c, j'⟩ := y
        rw [hc] at t2
        obtain ⟨t3, t4⟩ := t2
        obtain ⟨d1, d2, d3⟩ := pC_ok G.e (by omega) hc
        obtain ⟨k1, k2, k3, k4⟩ := cl1_b (en := en p d kd v) (c := c) d3 b1 b2 b3 b4
        obtain ⟨r, μ3, u1, u2, u3⟩ := ih N1 (q + 1) j' μ2 _ (by omega) (by omega) (by omega) d1 t3 t4 (by omega) (by omega) k3 k4
        exact ⟨r, μ3, u1, u2, u3.c⟩
    · rw [if_neg c2, if_neg c2]
      by_cases c : g j = 200
      · rw [if_pos c]
        exact rdK_ok h hm (by omega) (by omega) c
      · obtain ⟨μ1, a1, a2⟩ := rdK_f G (by omega) h c
        rw [if_neg c]
        exact ⟨_, μ1, a1, a2, (by omega : j ≤ 1000), rfl⟩
/-- a reading, from the start -/
theorem x_reads {μ : Mm} {b ρ L p d kd v : Nat} {tx : Nat → Nat} (hb : 2 ≤ b) (hρ : ρ ≤ 6) (hL : L ≤ 100) (h10 : μ 10 ρ = nI L) (ht : ∀ j, j < L → tx j < 128 ∧ μ (3 + ρ) j = nI (tx j)) (hp : p < 6) (hd : d < 6) (hk : kd ≤ 6) (hv : v ≤ 9) (e1 : μ (b + 1) p = nI kd) (e2 : μ (b + 2) p = nI v) : ∃ r μ1, F_Rooms_reads (nI ρ) b (nI p) (nI d) μ = some (r, μ1) ∧ (∀ c, c ≠ 1 → μ1 c = μ c) ∧ μ1 1 2 = μ 1 2 ∧ RW (en p d kd v) (3, 0, 3, 4) (pX (sgn L tx)) r μ1 := by
  obtain ⟨μ0, hμ⟩ : ∃ μ0, μ0 = up2 (up2 (up2 (up2 (up2 (up2 (up2 (up2 (up2 (up2 μ 1 3 (nI ρ)) 1 4 (-1)) 1 6 (-1)) 1 7 (nI p)) 1 8 (nI kd)) 1 9 (nI v)) 1 10 (nI d)) 1 11 3) 1 12 3) 1 13 4 := ⟨_, rfl⟩
  have hbg : F_Rooms_begins (nI ρ) b (nI p) (nI d) μ = some μ0 := by
    unfold F_Rooms_begins
    simp only [lt_e]
    rw [rdI_nI hp (by omega)]
    simp (disch := omega) only [u_nc]
    rw [e1, Option.bind_some, rdI_nI hp (by omega)]
    simp (disch := omega) only [u_nc]
    rw [e2, Option.bind_some, hμ]
  have fc : ∀ c, c ≠ 1 → μ0 c = μ c := fun c hc => by
    rw [hμ]
    simp (disch := omega) only [u_cf]
  have f2 : μ0 1 2 = μ 1 2 := by rw [hμ]; simp (disch := omega) only [u_nj]
  have f3 : μ0 1 3 = nI ρ := by rw [hμ]; simp (disch := omega) only [u_nj, u_eq]
  have f4 : μ0 1 4 = -1 := by rw [hμ]; simp (disch := omega) only [u_nj, u_eq]
  have f6 : μ0 1 6 = -1 := by rw [hμ]; simp (disch := omega) only [u_nj, u_eq]
  have f7 : μ0 1 7 = nI p := by rw [hμ]; simp (disch := omega) only [u_nj, u_eq]
  have f8 : μ0 1 8 = nI kd := by rw [hμ]; simp (disch := omega) only [u_nj, u_eq]
  have f9 : μ0 1 9 = nI v := by rw [hμ]; simp (disch := omega) only [u_nj, u_eq]
  have f10 : μ0 1 10 = nI d := by rw [hμ]; simp (disch := omega) only [u_nj, u_eq]
  have f11 : μ0 1 11 = 3 := by rw [hμ]; simp (disch := omega) only [u_nj, u_eq]
  have f12 : μ0 1 12 = 3 := by rw [hμ]; simp (disch := omega) only [u_nj, u_eq]
  have f13 : μ0 1 13 = 4 := by rw [hμ]; simp (disch := omega) only [u_nj, u_eq]
  have G : GT (sgn L tx) μ0 := ⟨ρ, L, tx, hρ, hL, f3, by rw [fc 10 (by omega)]; exact h10, fun j hj => ⟨(ht j hj).1, by rw [fc _ (by omega)]; exact (ht j hj).2⟩, fun _ => rfl⟩
  have E : EN p d kd v μ0 := ⟨f7, f8, f9, f10, hp, hd, hk, hv⟩
  have M0 : MS (3, 0, 3, 4) μ0 := ⟨f11.trans (by decide), f12, f13⟩
  obtain ⟨μ1, s1, s2, s3⟩ := x_steps G (i := 0) Bs.rf f4 (by decide) (by omega) f6
  obtain ⟨μ2, t1, t2⟩ := x_clause G E (i := 0) (by omega) s2 (M0.m3 s3)
  obtain ⟨N, hN⟩ : ∃ N, fu = N + 1 + 1 := ⟨99998, rfl⟩
  have run : F_Rooms_reads (nI ρ) b (nI p) (nI d) μ = L_Rooms_reads_30 rdK (N + 1) (nI 1) μ2 := by
    unfold F_Rooms_reads
    rw [hbg, Option.bind_some, f3, if_neg (nn_not_neg (by omega)), q6, ite_le (by omega) (by omega), if_pos hρ, hN]
    show L_Rooms_reads_30 rdK (N + 1 + 1) 0 μ0 = _
    rw [L_Rooms_reads_30, if_neg (show ¬ (10 : Int32) ≤ 0 by decide), jn_e, if_pos rfl, s1, Option.bind_some, t1, Option.bind_some]
    rfl
  rw [run]
  unfold pX
  cases hc : pC (sgn L tx) 0 with
  | inl x =>
    rw [hc] at t2
    obtain ⟨μ3, u1, u2⟩ := rdK_E t2.2
    rw [L_Rooms_reads_30, if_neg (show ¬ (10 : Int32) ≤ nI 1 by decide), jn_e, if_neg (show ¬ nI 1 = 0 by decide), t2.2.2.2.1, if_neg (show ¬ (-1 : Int32) = 59 by decide), u1]
    exact ⟨_, μ3, rfl, fun c hc => (u2.1 c hc).trans (fc c hc), (u2.2 2 (by omega)).trans f2, t2.1, rfl⟩
  | inr y =>
    obtain ⟨c, j'⟩ := y
    rw [hc] at t2
    obtain ⟨t3, t4⟩ := t2
    obtain ⟨d1, d2, d3⟩ := pC_ok G.e (by omega) hc
    obtain ⟨k1, k2, k3, k4⟩ := cl1_b (en := en p d kd v) (c := c) (m := (3, 0, 3, 4)) (B := 3) d3 (Nat.le_refl 3) (Nat.zero_le 3) ⟨by decide, by decide⟩ ⟨by decide, by decide⟩
    obtain ⟨r, μ3, u1, u2, u3⟩ := x_readsL G E 9 (N + 1) 1 j' μ2 _ (by omega) (by omega) (by have : fu = 100000 := rfl; omega) d1 t3 t4 (by omega) (by omega) k3 k4
    exact ⟨r, μ3, u1, fun c hc => (u2.1 c hc).trans (fc c hc), (u2.2 2 (by omega)).trans f2, u3.c⟩
