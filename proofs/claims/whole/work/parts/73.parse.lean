/-! what a text says: letters, numbers, tests, what holds (its codes, its value) -/
abbrev Er : Type := List Nat × ((Nat → Nat) → Bool)
def sgn (L : Nat) (tx : Nat → Nat) (i : Nat) : Nat := if i < L then tx i else 200
def dgt (c : Nat) : Bool := decide (48 ≤ c) && decide (c ≤ 57)
def pN (g : Nat → Nat) (i : Nat) : Nat ⊕ (Nat × Nat) := if dgt (g i) = true then (if dgt (g (i + 1)) = true then .inr (10 * (g i - 48) + (g (i + 1) - 48), i + 2) else .inr (g i - 48, i + 1)) else .inl i
def fct (c : Nat) : Option Nat := if c = 112 then some 0 else if c = 100 then some 1 else if c = 107 then some 2 else if c = 118 then some 3 else if c = 114 then some 4 else if c = 99 then some 5 else none
def tv (s a n : Nat) : Bool := if s = 0 then decide (a < n) else if s = 1 then decide (a = n) else decide (n < a)
def tT (f s n : Nat) : Er := ([1000 * f + 100 * s + n], fun e => tv s (e f) n)
def nT (a : Er) : Er := (a.1 ++ [10033], fun e => !a.2 e)
def anT (a b : Er) : Er := (a.1 ++ b.1 ++ [10038], fun e => a.2 e && b.2 e)
def ooT (a b : Er) : Er := (a.1 ++ b.1 ++ [10124], fun e => a.2 e || b.2 e)
def cT (C : Option Er) (S : Er) : Er := match C with
  | none => S
  | some a => anT a S
def aT (A : Option Er) (S : Er) : Er := match A with
  | none => S
  | some a => ooT a S
def pT (g : Nat → Nat) (i : Nat) : Nat ⊕ (Er × Nat) := match fct (g i) with
  | none => .inl i
  | some f => if 60 ≤ g (i + 1) ∧ g (i + 1) ≤ 62 then (match pN g (i + 2) with
    | .inl p => .inl p
    | .inr (n, j) => .inr (tT f (g (i + 1) - 60) n, j)) else .inl (i + 1)
def pL (ps : Nat → Nat ⊕ (Er × Nat)) (g : Nat → Nat) : Nat → Option Er → Option Er → Er → Nat → Nat ⊕ (Er × Nat)
  | 0, A, C, S, j => .inr (aT A (cT C S), j)
  | n + 1, A, C, S, j => if g j = 38 then (match ps (j + 1) with
    | .inl p => .inl p
    | .inr (S', j') => pL ps g n A (some (cT C S)) S' j') else if g j = 124 then (match ps (j + 1) with
    | .inl p => .inl p
    | .inr (S', j') => pL ps g n (some (aT A (cT C S))) none S' j') else .inr (aT A (cT C S), j)
def pE (ps : Nat → Nat ⊕ (Er × Nat)) (g : Nat → Nat) (i : Nat) : Nat ⊕ (Er × Nat) := match ps i with
  | .inl p => .inl p
  | .inr (S, j) => pL ps g 100 none none S j
def pS (g : Nat → Nat) : Nat → Nat → Nat ⊕ (Er × Nat)
  | 0, i => pT g i
  | r + 1, i => if g i = 33 then (match pS g r (i + 1) with
    | .inl p => .inl p
    | .inr (e, j) => .inr (nT e, j)) else if g i = 40 then (match pE (pS g r) g (i + 1) with
    | .inl p => .inl p
    | .inr (e, j) => if g j = 41 then .inr (e, j + 1) else .inl j) else pT g i
/-! words -/
def wl (j : Nat) : Nat := [99, 104, 97, 116, 104, 117, 115, 104, 119, 101, 97, 114, 99, 111, 115, 116].getD j 0
def fit (q c : Nat) : Nat := (if wl q = c then 1 else 0) + (if wl (4 + q) = c then 2 else 0) + (if wl (8 + q) = c then 4 else 0) + (if wl (12 + q) = c then 8 else 0)
def pM (g : Nat → Nat) : Nat → Nat → Nat → Nat → Nat ⊕ (Nat × Nat)
  | 0, m, _, i => .inr (m, i)
  | k + 1, m, q, i => if m &&& fit q (g i) = 0 then .inl i else pM g k (m &&& fit q (g i)) (q + 1) (i + 1)
def wdo (g : Nat → Nat) (i : Nat) : Nat := if g i = 104 then 1 else if g i = 119 then 2 else if g (i + 1) = 111 then 3 else 0
/-- the letters of one word -/
def pG (g : Nat → Nat) (w : Nat) : Nat → Nat → Nat → Nat ⊕ (Nat × Nat)
  | 0, _, i => .inr (w, i)
  | k + 1, q, i => if g i = wl (4 * w + q) then pG g w k (q + 1) (i + 1) else .inl i
def pW (g : Nat → Nat) (i : Nat) : Nat ⊕ (Nat × Nat) := pG g (wdo g i) 4 0 i
def mp2 (x : Nat ⊕ (Nat × Nat)) : Nat ⊕ (Nat × Nat) := match x with
  | .inl p => .inl p
  | .inr (w, j) => .inr (2 ^ w, j)
theorem fit_one : ∀ w, w < 4 → ∀ q, q < 4 → ∀ c, c < 201 → (2 ^ w &&& fit q c) = if c = wl (4 * w + q) then 2 ^ w else 0 := by decide +kernel
theorem fit_a : ∀ c, c < 201 → (15 &&& fit 0 c) = if c = 99 then 9 else if c = 104 then 2 else if c = 119 then 4 else 0 := by decide +kernel
theorem fit_b : ∀ c, c < 201 → (9 &&& fit 1 c) = if c = 104 then 1 else if c = 111 then 8 else 0 := by decide +kernel
theorem pM_one (g : Nat → Nat) (hg : ∀ i, g i < 201) {w : Nat} (hw : w < 4) : ∀ k q i, q + k ≤ 4 → pM g k (2 ^ w) q i = mp2 (pG g w k q i)
  | 0, _, _, _ => rfl
  | k + 1, q, i, h => by
    show (if 2 ^ w &&& fit q (g i) = 0 then .inl i else pM g k (2 ^ w &&& fit q (g i)) (q + 1) (i + 1)) = mp2 (if g i = wl (4 * w + q) then pG g w k (q + 1) (i + 1) else .inl i)
    rw [fit_one w hw q (by omega) (g i) (hg i)]
    by_cases c : g i = wl (4 * w + q)
    · have : 2 ^ w ≠ 0 := Nat.ne_of_gt (Nat.pow_pos (by omega))
      rw [if_pos c, if_pos c, if_neg this]
      exact pM_one g hg hw k (q + 1) (i + 1) (by omega)
    · rw [if_neg c, if_neg c, if_pos rfl]
      rfl
theorem pM_pW (g : Nat → Nat) (hg : ∀ i, g i < 201) (i : Nat) : pM g 4 15 0 i = mp2 (pW g i) := by
  show (if 15 &&& fit 0 (g i) = 0 then .inl i else pM g 3 (15 &&& fit 0 (g i)) 1 (i + 1)) = mp2 (pG g (wdo g i) 4 0 i)
  have eG : ∀ w, pG g w 4 0 i = if g i = wl (4 * w) then pG g w 3 1 (i + 1) else .inl i := fun w => rfl
  have eG1 : ∀ w, pG g w 3 1 (i + 1) = if g (i + 1) = wl (4 * w + 1) then pG g w 2 2 (i + 1 + 1) else .inl (i + 1) := fun w => rfl
  have eM1 : ∀ m, pM g 3 m 1 (i + 1) = if m &&& fit 1 (g (i + 1)) = 0 then .inl (i + 1) else pM g 2 (m &&& fit 1 (g (i + 1))) 2 (i + 1 + 1) := fun m => rfl
  rw [fit_a (g i) (hg i), eG]
  unfold wdo
  by_cases a : g i = 99
  · rw [if_pos a, if_neg (by decide), if_neg (show ¬ g i = 104 by omega), if_neg (show ¬ g i = 119 by omega), eM1, fit_b _ (hg (i + 1))]
    by_cases b : g (i + 1) = 111
    · rw [if_neg (show ¬ g (i + 1) = 104 by omega), if_pos b, if_neg (by decide), if_pos b, if_pos (show g i = wl (4 * 3) from a), eG1, if_pos (show g (i + 1) = wl (4 * 3 + 1) from b)]
      exact pM_one g hg (w := 3) (by omega) 2 2 (i + 1 + 1) (by omega)
    · rw [if_neg b, if_neg b, if_pos (show g i = wl (4 * 0) from a), eG1]
      by_cases c : g (i + 1) = 104
      · rw [if_pos c, if_neg (by decide), if_pos (show g (i + 1) = wl (4 * 0 + 1) from c)]
        exact pM_one g hg (w := 0) (by omega) 2 2 (i + 1 + 1) (by omega)
      · rw [if_neg c, if_pos rfl, if_neg (show ¬ g (i + 1) = wl (4 * 0 + 1) from c)]
        rfl
  · rw [if_neg a]
    by_cases b : g i = 104
    · rw [if_pos b, if_neg (by decide), if_pos b, if_pos (show g i = wl (4 * 1) from b)]
      exact pM_one g hg (w := 1) (by omega) 3 1 (i + 1) (by omega)
    · rw [if_neg b, if_neg b]
      by_cases c : g i = 119
      · rw [if_pos c, if_neg (by decide), if_pos c, if_pos (show g i = wl (4 * 2) from c)]
        exact pM_one g hg (w := 2) (by omega) 3 1 (i + 1) (by omega)
      · rw [if_neg c, if_pos rfl, if_neg c]
        by_cases d : g (i + 1) = 111
        · rw [if_pos d, if_neg (show ¬ g i = wl (4 * 3) from a)]
          rfl
        · rw [if_neg d, if_neg (show ¬ g i = wl (4 * 0) from a)]
          rfl
/-! clauses: the word, the number, what must hold -/
abbrev Cl : Type := Nat × Nat × Er
def pC (g : Nat → Nat) (i : Nat) : Nat ⊕ (Cl × Nat) := match pW g i with
  | .inl p => .inl p
  | .inr (w, j) => if g j = 32 then (match pN g (j + 1) with
    | .inl p => .inl p
    | .inr (n, j2) => if 2 ≤ w then .inr ((w, n, ([], fun _ => true)), j2) else if g j2 = 32 then (match pE (pS g 4) g (j2 + 1) with
      | .inl p => .inl p
      | .inr (e, j3) => .inr ((w, n, e), j3)) else .inl j2) else .inl j
def cns (c : Cl) (P : Nat ⊕ List Cl) : Nat ⊕ List Cl := match P with
  | .inl p => .inl p
  | .inr cs => .inr (c :: cs)
def pR (g : Nat → Nat) : Nat → Nat → Nat ⊕ List Cl
  | 0, j => if g j = 200 then .inr [] else .inl j
  | m + 1, j => if g j = 200 then .inr [] else if g j = 59 then (match pC g (j + 1) with
    | .inl p => .inl p
    | .inr (c, j') => cns c (pR g m j')) else .inl j
def pX (g : Nat → Nat) : Nat ⊕ List Cl := match pC g 0 with
  | .inl p => .inl p
  | .inr (c, j) => cns c (pR g 9 j)
/-- what the clauses come to: mouth up, mouth down, WEARS, COST -/
abbrev Mo : Type := Nat × Nat × Nat × Nat
def cl1 (en : Nat → Nat) (c : Cl) (m : Mo) : Mo := if c.1 = 2 then (m.1, m.2.1, max 1 c.2.1, m.2.2.2) else if c.1 = 3 then (m.1, m.2.1, m.2.2.1, max 1 c.2.1) else if c.2.2.2 en = true then (if c.1 = 0 then (m.1 + c.2.1, m.2.1, m.2.2.1, m.2.2.2) else (m.1, m.2.1 + c.2.1, m.2.2.1, m.2.2.2)) else m
def cls (en : Nat → Nat) : List Cl → Mo → Mo
  | [], m => m
  | c :: cs, m => cls en cs (cl1 en c m)
/-! where they end, how many codes they have, and what holds of all of them -/
theorem pN_ok {g : Nat → Nat} {L : Nat} (hL : ∀ i, L ≤ i → g i = 200) {i n j : Nat} (h : pN g i = .inr (n, j)) : i < j ∧ j ≤ L ∧ n ≤ 99 := by
  have dlt : ∀ k, dgt (g k) = true → k < L ∧ 48 ≤ g k ∧ g k ≤ 57 := fun k hk => by
    obtain ⟨h1, h2⟩ := (Bool.and_eq_true _ _).mp hk
    have h3 := of_decide_eq_true h1
    have h4 := of_decide_eq_true h2
    refine ⟨Nat.lt_of_not_le (fun q => ?_), h3, h4⟩
    rw [hL k q] at h4
    omega
  unfold pN at h
  by_cases a : dgt (g i) = true
  · rw [if_pos a] at h
    obtain ⟨a1, a2, a3⟩ := dlt _ a
    by_cases b : dgt (g (i + 1)) = true
    · rw [if_pos b] at h
      obtain ⟨b1, b2, b3⟩ := dlt _ b
      have h' := Sum.inr.inj h
      have e1 : 10 * (g i - 48) + (g (i + 1) - 48) = n := congrArg Prod.fst h'
      have e2 : i + 2 = j := congrArg Prod.snd h'
      omega
    · rw [if_neg b] at h
      have h' := Sum.inr.inj h
      have e1 : g i - 48 = n := congrArg Prod.fst h'
      have e2 : i + 1 = j := congrArg Prod.snd h'
      omega
  · rw [if_neg a] at h
    cases h
theorem fct_le {c f : Nat} (h : fct c = some f) : f ≤ 5 ∧ c ≠ 200 := by
  unfold fct at h
  by_cases c1 : c = 112
  · rw [if_pos c1] at h; have := Option.some.inj h; omega
  · rw [if_neg c1] at h
    by_cases c2 : c = 100
    · rw [if_pos c2] at h; have := Option.some.inj h; omega
    · rw [if_neg c2] at h
      by_cases c3 : c = 107
      · rw [if_pos c3] at h; have := Option.some.inj h; omega
      · rw [if_neg c3] at h
        by_cases c4 : c = 118
        · rw [if_pos c4] at h; have := Option.some.inj h; omega
        · rw [if_neg c4] at h
          by_cases c5 : c = 114
          · rw [if_pos c5] at h; have := Option.some.inj h; omega
          · rw [if_neg c5] at h
            by_cases c6 : c = 99
            · rw [if_pos c6] at h; have := Option.some.inj h; omega
            · rw [if_neg c6] at h; cases h
theorem pT_ok {g : Nat → Nat} {L : Nat} (hL : ∀ i, L ≤ i → g i = 200) {i j : Nat} {e : Er} (h : pT g i = .inr (e, j)) : i + 3 ≤ j ∧ j ≤ L ∧ ∃ f s n, f ≤ 5 ∧ s ≤ 2 ∧ n ≤ 99 ∧ e = tT f s n := by
  unfold pT at h
  cases hf : fct (g i) with
  | none => rw [hf] at h; cases h
  | some f =>
    rw [hf] at h
    replace h : (if 60 ≤ g (i + 1) ∧ g (i + 1) ≤ 62 then (match pN g (i + 2) with
      | .inl p => .inl p
      | .inr (n, j) => .inr (tT f (g (i + 1) - 60) n, j)) else .inl (i + 1) : Nat ⊕ (Er × Nat)) = .inr (e, j) := h
    by_cases a : 60 ≤ g (i + 1) ∧ g (i + 1) ≤ 62
    · rw [if_pos a] at h
      cases hn : pN g (i + 2) with
      | inl p => rw [hn] at h; cases h
      | inr x =>
        obtain ⟨n, j'⟩ := x
        rw [hn] at h
        have h' := Sum.inr.inj h
        have e1 : tT f (g (i + 1) - 60) n = e := congrArg Prod.fst h'
        have e2 : j' = j := congrArg Prod.snd h'
        obtain ⟨n1, n2, n3⟩ := pN_ok hL hn
        exact ⟨by omega, by omega, f, g (i + 1) - 60, n, (fct_le hf).1, by omega, n3, e1.symm⟩
    · rw [if_neg a] at h
      cases h
def lenO : Option Er → Nat
  | none => 0
  | some a => a.1.length + 1
def allO (Q : Er → Prop) : Option Er → Prop
  | none => True
  | some a => Q a
theorem cT_len (C : Option Er) (S : Er) : (cT C S).1.length = lenO C + S.1.length := by
  cases C with
  | none => exact (Nat.zero_add _).symm
  | some a =>
    show (a.1 ++ S.1 ++ [10038]).length = a.1.length + 1 + S.1.length
    rw [List.length_append, List.length_append]
    show a.1.length + S.1.length + 1 = _
    omega
theorem aT_len (C : Option Er) (S : Er) : (aT C S).1.length = lenO C + S.1.length := by
  cases C with
  | none => exact (Nat.zero_add _).symm
  | some a =>
    show (a.1 ++ S.1 ++ [10124]).length = a.1.length + 1 + S.1.length
    rw [List.length_append, List.length_append]
    show a.1.length + S.1.length + 1 = _
    omega
/-- closed under what is built -/
def Clo (Q : Er → Prop) : Prop := (∀ f s n, f ≤ 5 → s ≤ 2 → n ≤ 99 → Q (tT f s n)) ∧ (∀ a, Q a → Q (nT a)) ∧ (∀ a b, Q a → Q b → Q (anT a b)) ∧ ∀ a b, Q a → Q b → Q (ooT a b)
theorem Clo.c {Q : Er → Prop} (h : Clo Q) {C : Option Er} {S : Er} (hc : allO Q C) (hs : Q S) : Q (cT C S) := by
  cases C with
  | none => exact hs
  | some a => exact h.2.2.1 a S hc hs
theorem Clo.a {Q : Er → Prop} (h : Clo Q) {C : Option Er} {S : Er} (hc : allO Q C) (hs : Q S) : Q (aT C S) := by
  cases C with
  | none => exact hs
  | some a => exact h.2.2.2 a S hc hs
theorem pL_ok {Q : Er → Prop} (hQ : Clo Q) {g : Nat → Nat} {L : Nat} (hL : ∀ i, L ≤ i → g i = 200) {ps : Nat → Nat ⊕ (Er × Nat)} (hps : ∀ i e j, ps i = .inr (e, j) → i < j ∧ j ≤ L ∧ i + e.1.length ≤ j ∧ Q e) : ∀ n i0 A C S j e j', pL ps g n A C S j = .inr (e, j') → i0 + lenO A + lenO C + S.1.length ≤ j → j ≤ L → allO Q A → allO Q C → Q S → j ≤ j' ∧ j' ≤ L ∧ i0 + e.1.length ≤ j' ∧ Q e := by
  have fin : ∀ i0 A C S j e j', (.inr (aT A (cT C S), j) : Nat ⊕ (Er × Nat)) = .inr (e, j') → i0 + lenO A + lenO C + S.1.length ≤ j → j ≤ L → allO Q A → allO Q C → Q S → j ≤ j' ∧ j' ≤ L ∧ i0 + e.1.length ≤ j' ∧ Q e := by
    intro i0 A C S j e j' h h1 h2 h3 h4 h5
    have h' := Sum.inr.inj h
    have e1 : aT A (cT C S) = e := congrArg Prod.fst h'
    have e2 : j = j' := congrArg Prod.snd h'
    subst e1 e2
    refine ⟨Nat.le_refl _, h2, ?_, hQ.a h3 (hQ.c h4 h5)⟩
    rw [aT_len, cT_len]
    omega
  intro n
  induction n with
  | zero => exact fin
  | succ n ih =>
    intro i0 A C S j e j' h h1 h2 h3 h4 h5
    replace h : (if g j = 38 then (match ps (j + 1) with
      | .inl p => .inl p
      | .inr (S', j') => pL ps g n A (some (cT C S)) S' j') else if g j = 124 then (match ps (j + 1) with
      | .inl p => .inl p
      | .inr (S', j') => pL ps g n (some (aT A (cT C S))) none S' j') else .inr (aT A (cT C S), j) : Nat ⊕ (Er × Nat)) = .inr (e, j') := h
    by_cases c1 : g j = 38
    · rw [if_pos c1] at h
      cases hp : ps (j + 1) with
      | inl p => rw [hp] at h; cases h
      | inr x =>
        obtain ⟨S', j2⟩ := x
        rw [hp] at h
        obtain ⟨p1, p2, p3, p4⟩ := hps _ _ _ hp
        obtain ⟨q1, q2, q3, q4⟩ := ih i0 A (some (cT C S)) S' j2 e j' h (by
          show i0 + lenO A + ((cT C S).1.length + 1) + S'.1.length ≤ j2
          rw [cT_len]
          omega) p2 h3 (hQ.c h4 h5) p4
        exact ⟨by omega, q2, q3, q4⟩
    · rw [if_neg c1] at h
      by_cases c2 : g j = 124
      · rw [if_pos c2] at h
        cases hp : ps (j + 1) with
        | inl p => rw [hp] at h; cases h
        | inr x =>
          obtain ⟨S', j2⟩ := x
          rw [hp] at h
          obtain ⟨p1, p2, p3, p4⟩ := hps _ _ _ hp
          obtain ⟨q1, q2, q3, q4⟩ := ih i0 (some (aT A (cT C S))) none S' j2 e j' h (by
            show i0 + ((aT A (cT C S)).1.length + 1) + 0 + S'.1.length ≤ j2
            rw [aT_len, cT_len]
            omega) p2 (hQ.a h3 (hQ.c h4 h5)) trivial p4
          exact ⟨by omega, q2, q3, q4⟩
      · rw [if_neg c2] at h
        exact fin i0 A C S j e j' h h1 h2 h3 h4 h5
theorem pE_ok {Q : Er → Prop} (hQ : Clo Q) {g : Nat → Nat} {L : Nat} (hL : ∀ i, L ≤ i → g i = 200) {ps : Nat → Nat ⊕ (Er × Nat)} (hps : ∀ i e j, ps i = .inr (e, j) → i < j ∧ j ≤ L ∧ i + e.1.length ≤ j ∧ Q e) {i j : Nat} {e : Er} (h : pE ps g i = .inr (e, j)) : i < j ∧ j ≤ L ∧ i + e.1.length ≤ j ∧ Q e := by
  unfold pE at h
  cases hp : ps i with
  | inl p => rw [hp] at h; cases h
  | inr x =>
    obtain ⟨S', j2⟩ := x
    rw [hp] at h
    obtain ⟨p1, p2, p3, p4⟩ := hps _ _ _ hp
    obtain ⟨q1, q2, q3, q4⟩ := pL_ok hQ hL hps 100 i none none S' j2 e j h (by show i + 0 + 0 + S'.1.length ≤ j2; omega) p2 trivial trivial p4
    exact ⟨by omega, q2, q3, q4⟩
theorem pS_ok {Q : Er → Prop} (hQ : Clo Q) {g : Nat → Nat} {L : Nat} (hL : ∀ i, L ≤ i → g i = 200) : ∀ r i e j, pS g r i = .inr (e, j) → i < j ∧ j ≤ L ∧ i + e.1.length ≤ j ∧ Q e := by
  have tst : ∀ i e j, pT g i = .inr (e, j) → i < j ∧ j ≤ L ∧ i + e.1.length ≤ j ∧ Q e := fun i e j h => by
    obtain ⟨h1, h2, f, s, n, h3, h4, h5, h6⟩ := pT_ok hL h
    subst h6
    exact ⟨by omega, h2, (by show i + 1 ≤ j; omega), hQ.1 f s n h3 h4 h5⟩
  intro r
  induction r with
  | zero => exact tst
  | succ r ih =>
    intro i e j h
    replace h : (if g i = 33 then (match pS g r (i + 1) with
      | .inl p => .inl p
      | .inr (e, j) => .inr (nT e, j)) else if g i = 40 then (match pE (pS g r) g (i + 1) with
      | .inl p => .inl p
      | .inr (e, j) => if g j = 41 then .inr (e, j + 1) else .inl j) else pT g i : Nat ⊕ (Er × Nat)) = .inr (e, j) := h
    by_cases c1 : g i = 33
    · rw [if_pos c1] at h
      cases hp : pS g r (i + 1) with
      | inl p => rw [hp] at h; cases h
      | inr x =>
        obtain ⟨e', j2⟩ := x
        rw [hp] at h
        have h' := Sum.inr.inj h
        have e1 : nT e' = e := congrArg Prod.fst h'
        have e2 : j2 = j := congrArg Prod.snd h'
        obtain ⟨p1, p2, p3, p4⟩ := ih _ _ _ hp
        subst e1 e2
        refine ⟨by omega, p2, ?_, hQ.2.1 _ p4⟩
        show i + (e'.1 ++ [10033]).length ≤ j2
        rw [List.length_append]
        show i + (e'.1.length + 1) ≤ j2
        omega
    · rw [if_neg c1] at h
      by_cases c2 : g i = 40
      · rw [if_pos c2] at h
        cases hp : pE (pS g r) g (i + 1) with
        | inl p => rw [hp] at h; cases h
        | inr x =>
          obtain ⟨e', j2⟩ := x
          rw [hp] at h
          replace h : (if g j2 = 41 then .inr (e', j2 + 1) else .inl j2 : Nat ⊕ (Er × Nat)) = .inr (e, j) := h
          obtain ⟨p1, p2, p3, p4⟩ := pE_ok hQ hL ih hp
          by_cases c3 : g j2 = 41
          · rw [if_pos c3] at h
            have h' := Sum.inr.inj h
            have e1 : e' = e := congrArg Prod.fst h'
            have e2 : j2 + 1 = j := congrArg Prod.snd h'
            subst e1 e2
            have : j2 < L := Nat.lt_of_not_le (fun q => by rw [hL j2 q] at c3; omega)
            exact ⟨by omega, by omega, by omega, p4⟩
          · rw [if_neg c3] at h
            cases h
      · rw [if_neg c2] at h
        exact tst i e j h
