/-! the class reads words, clauses, a whole text -/
theorem wordT_wl : ∀ m, m < 16 → wordT m = nI (wl m) ∧ wl m < 128 := by decide
theorem chr_wl {m : Nat} (h : m < 16) : F_Str_charAt (nI m) = some (nI (wl m)) := by
  unfold F_Str_charAt
  rw [rdI_nI h (by omega), (wordT_wl m h).1]
def fitp (q c : Nat) : Nat → Nat
  | 0 => 0
  | w + 1 => fitp q c w + if wl (w * 4 + q) = c then 2 ^ w else 0
theorem fitp_4 {q c : Nat} (hq : q < 4) : fitp q c 4 = fit q c := by
  rcases (show q = 0 ∨ q = 1 ∨ q = 2 ∨ q = 3 by omega) with rfl | rfl | rfl | rfl
  · show 0 + _ + _ + _ + _ = _; rw [Nat.zero_add]; rfl
  · show 0 + _ + _ + _ + _ = _; rw [Nat.zero_add]; rfl
  · show 0 + _ + _ + _ + _ = _; rw [Nat.zero_add]; rfl
  · show 0 + _ + _ + _ + _ = _; rw [Nat.zero_add]; rfl
theorem fitp_lt (q c : Nat) : ∀ w, fitp q c w < 2 ^ w
  | 0 => Nat.zero_lt_one
  | w + 1 => by
    have h := fitp_lt q c w
    show fitp q c w + (if wl (w * 4 + q) = c then 2 ^ w else 0) < 2 ^ (w + 1)
    rw [Nat.pow_succ]
    split <;> omega
theorem ite_s' {α : Sort _} {x y : α} {c k : Nat} (hc : c < 128 ∨ c = 200) (hk : k < 128) : (if nI k = sI c then x else y) = if k = c then x else y := by
  by_cases h : k = c
  · rw [if_pos h, if_pos ((sI_eq hc hk rfl).mpr h.symm).symm]
  · rw [if_neg h, if_neg (fun q => h ((sI_eq hc hk rfl).mp q.symm).symm)]
theorem fitL {μ : Mm} {c : Nat} (hc : c < 128 ∨ c = 200) (h5 : μ 1 5 = sI c) (y : Int32) {q : Nat} (hq : q < 4) (kk : Int32 → Option (Int32 × Mm)) : ∀ d w, w + d = 4 → ∀ n, d < n → ∀ x, x = nI w → L_Rooms_word_15 y (nI q) μ kk n (nI (fitp q c w)) x = kk (nI (fit q c)) := by
  intro d
  induction d with
  | zero =>
    intro w hw n hn x hx
    obtain ⟨N1, rfl⟩ : ∃ N, n = N + 1 := ⟨n - 1, by omega⟩
    have e : w = 4 := by omega
    subst e
    subst hx
    rw [L_Rooms_word_15, if_pos (by decide), fitp_4 hq]
  | succ d ih =>
    intro w hw n hn x hx
    obtain ⟨N1, rfl⟩ : ∃ N, n = N + 1 := ⟨n - 1, by omega⟩
    subst hx
    have st : fitp q c (w + 1) = fitp q c w + if wl (w * 4 + q) = c then 2 ^ w else 0 := rfl
    have hm : w * 4 + q < 16 := by omega
    rw [L_Rooms_word_15, q4, ite_le (by omega) (by omega), if_neg (by omega), pk_mul, nI_add, chr_wl hm, Option.bind_some, jn_e, h5, ite_s' hc (wordT_wl _ hm).2]
    by_cases e : wl (w * 4 + q) = c
    · rw [if_pos e, lt_e, or_bit w (by omega) _ (fitp_lt q c w)]
      rw [if_pos e] at st
      rw [← st]
      exact ih (w + 1) (by omega) N1 (by omega) _ (nI_1 w)
    · rw [if_neg e]
      have st' : fitp q c (w + 1) = fitp q c w := by rw [st, if_neg e]; rfl
      rw [← st']
      exact ih (w + 1) (by omega) N1 (by omega) _ (nI_1 w)
theorem fit_lt {q c : Nat} (hq : q < 4) : fit q c < 16 := by
  rw [← fitp_4 hq]
  exact fitp_lt q c 4
theorem x_wordL {g : Nat → Nat} {μ0 : Mm} (G : GT g μ0) : ∀ k q m i n μ, q + k = 4 → k < n → m < 16 → i + k ≤ 300 → OKs g μ0 i μ → ∃ r μ1, L_Rooms_word_5 (fun (μ16 : Mm) => (F_Rooms_fails μ16).bind fun μ17 => some (0, μ17)) n (nI m) (nI q) μ = some (r, μ1) ∧ M3 μ μ1 ∧ Ps g μ0 (pM g k m q i) (fun w => r = nI w) μ1 := by
  intro k
  induction k with
  | zero =>
    intro q m i n μ hq hn hm hi h
    obtain ⟨N1, rfl⟩ : ∃ N, n = N + 1 := ⟨n - 1, by omega⟩
    rw [L_Rooms_word_5, q4, ite_le (by omega) (by omega), if_pos (by omega)]
    exact ⟨_, μ, rfl, M3.rf, (by omega : i ≤ 1000), h, rfl⟩
  | succ k ih =>
    intro q m i n μ hq hn hm hi h
    obtain ⟨N1, rfl⟩ : ∃ N, n = N + 1 := ⟨n - 1, by omega⟩
    have hf := fit_lt (q := q) (c := g i) (by omega)
    have e0 := fitL (G.lt i) h.2.2.1 (nI m) (q := q) (by omega) (fun (x13 : Int32) => (if (nI m &&& x13) = 0 then (F_Rooms_fails μ).bind fun μ17 => some (0, μ17) else (F_Rooms_steps μ).bind fun μ14 => L_Rooms_word_5 (fun (μ16 : Mm) => (F_Rooms_fails μ16).bind fun μ17 => some (0, μ17)) N1 (nI m &&& x13) (nI q + 1) μ14)) 4 0 (by omega) fu (fu_gt (by omega)) 0 rfl
    have ha := and_64 m (by omega) (fit q (g i)) (by omega)
    have hal : m &&& fit q (g i) < 16 := Nat.and_lt_two_pow m (n := 4) hf
    show ∃ r μ1, _ ∧ _ ∧ Ps g μ0 (if m &&& fit q (g i) = 0 then .inl i else pM g k (m &&& fit q (g i)) (q + 1) (i + 1)) _ μ1
    rw [L_Rooms_word_5, q4, ite_le (by omega) (by omega), if_neg (by omega)]
    have e1 : L_Rooms_word_15 (nI m) (nI q) μ (fun (x13 : Int32) => (if (nI m &&& x13) = 0 then (F_Rooms_fails μ).bind fun μ17 => some (0, μ17) else (F_Rooms_steps μ).bind fun μ14 => L_Rooms_word_5 (fun (μ16 : Mm) => (F_Rooms_fails μ16).bind fun μ17 => some (0, μ17)) N1 (nI m &&& x13) (nI q + 1) μ14)) fu 0 0 = (if m &&& fit q (g i) = 0 then (F_Rooms_fails μ).bind fun μ17 => some (0, μ17) else (F_Rooms_steps μ).bind fun μ14 => L_Rooms_word_5 (fun (μ16 : Mm) => (F_Rooms_fails μ16).bind fun μ17 => some (0, μ17)) N1 (nI (m &&& fit q (g i))) (nI (q + 1)) μ14) := by
      refine Eq.trans e0 ?_
      show (if (nI m &&& nI (fit q (g i))) = 0 then _ else _) = _
      rw [ha.1, q0, ite_eq (by omega) (by omega), nI_1]
    rw [e1]
    by_cases c : m &&& fit q (g i) = 0
    · obtain ⟨μ1, s1, s2, s3⟩ := h.fails
      rw [if_pos c, if_pos c, s1, Option.bind_some]
      exact ⟨_, μ1, rfl, s3, (by omega : i ≤ 1000), s2⟩
    · obtain ⟨μ1, s1, s2, s3⟩ := h.steps G (by omega)
      rw [if_neg c, if_neg c, s1, Option.bind_some]
      obtain ⟨r, μ2, t1, t2, t3⟩ := ih (q + 1) _ (i + 1) N1 μ1 (by omega) (by omega) hal (by omega) s2
      exact ⟨r, μ2, t1, s3.tr t2, t3⟩
theorem pG_ok {g : Nat → Nat} (hL : ∀ i, 100 ≤ i → g i = 200) {w : Nat} (hw : w < 4) : ∀ k q i w' j, q + k ≤ 4 → i ≤ 100 → pG g w k q i = .inr (w', j) → w' = w ∧ j ≤ 100
  | 0, _, i, w', j, _, hi, h => by
    have h' := Sum.inr.inj h
    have e1 : w = w' := congrArg Prod.fst h'
    have e2 : i = j := congrArg Prod.snd h'
    omega
  | k + 1, q, i, w', j, hq, hi, h => by
    replace h : (if g i = wl (4 * w + q) then pG g w k (q + 1) (i + 1) else .inl i) = .inr (w', j) := h
    by_cases c : g i = wl (4 * w + q)
    · rw [if_pos c] at h
      have := (wordT_wl (4 * w + q) (by omega)).2
      have : i < 100 := Nat.lt_of_not_le (fun x => by rw [hL i x] at c; omega)
      exact pG_ok hL hw k (q + 1) (i + 1) w' j (by omega) (by omega) h
    · rw [if_neg c] at h
      cases h
theorem wdo_lt (g : Nat → Nat) (i : Nat) : wdo g i < 4 := by
  unfold wdo
  repeat' split
  all_goals omega
theorem pW_ok {g : Nat → Nat} (hL : ∀ i, 100 ≤ i → g i = 200) {i w j : Nat} (hi : i ≤ 100) (h : pW g i = .inr (w, j)) : w < 4 ∧ j ≤ 100 := by
  obtain ⟨h1, h2⟩ := pG_ok hL (wdo_lt g i) 4 0 i w j (by omega) hi h
  exact ⟨h1 ▸ wdo_lt g i, h2⟩
theorem x_word {g : Nat → Nat} {μ0 μ : Mm} (G : GT g μ0) {i : Nat} (hi : i ≤ 100) (h : OKs g μ0 i μ) : ∃ r μ1, F_Rooms_word μ = some (r, μ1) ∧ M3 μ μ1 ∧ Ps g μ0 (pW g i) (fun w => r = nI (2 ^ w)) μ1 := by
  obtain ⟨r, μ1, a1, a2, a3⟩ := x_wordL G 4 0 15 i fu μ (by omega) (fu_gt (by omega)) (by omega) (by omega) h
  rw [pM_pW g (fun k => by rcases G.lt k with q | q <;> omega) i] at a3
  refine ⟨r, μ1, a1, a2, ?_⟩
  cases hp : pW g i with
  | inl q => rw [hp] at a3; exact a3
  | inr y => rw [hp] at a3; exact a3
/-! clauses -/
def MS (m : Mo) (μ : Mm) : Prop := μ 1 11 = nI m.1 - nI m.2.1 ∧ μ 1 12 = nI m.2.2.1 ∧ μ 1 13 = nI m.2.2.2
theorem MS.m3 {m : Mo} {μ μ1 : Mm} (h : MS m μ) (k : M3 μ μ1) : MS m μ1 := ⟨(k 11 (by omega)).trans h.1, (k 12 (by omega)).trans h.2.1, (k 13 (by omega)).trans h.2.2⟩
theorem OKs.m {g : Nat → Nat} {μ0 μ : Mm} {i j : Nat} {x : Int32} (h : OKs g μ0 i μ) (hj : 11 ≤ j) : OKs g μ0 i (up2 μ 1 j x) := ⟨h.1.up (by omega), by rw [u_nj (by omega)]; exact h.2.1, by rw [u_nj (by omega)]; exact h.2.2.1, by rw [u_nj (by omega)]; exact h.2.2.2⟩
theorem ERs.m {μ0 μ : Mm} {i j : Nat} {x : Int32} (h : ERs μ0 i μ) (hj : 11 ≤ j) : ERs μ0 i (up2 μ 1 j x) := ⟨h.1.up (by omega), by rw [u_nj (by omega)]; exact h.2.1, by rw [u_nj (by omega)]; exact h.2.2.1, by rw [u_nj (by omega)]; exact h.2.2.2⟩
/-- what `clause` does behind its number -/
def clK (v1 v6 : Int32) (μ7 : Mm) : Option Mm := (if v1 = 4 then lt_ (if 1 < v6 then v6 else 1) fun x19 => lt_ (up2 μ7 1 12 x19) fun μ20 => some μ20 else (if v1 = 8 then lt_ (if 1 < v6 then v6 else 1) fun x17 => lt_ (up2 μ7 1 13 x17) fun μ18 => some μ18 else (F_Rooms_expects 32 μ7).bind fun μ9 => (F_Rooms_either 8 0 μ9).bind fun p_ => match p_ with | (v11, μ12) => (if v11 = 0 then some μ12 else jn (α := Int32) (fun K16 => (if v1 = 1 then K16 v6 else K16 (-v6))) (fun (j14 : Int32) => lt_ (up2 μ12 1 11 ((μ12 1 11) + j14)) fun μ15 => some μ15))))
/-- and behind the second space -/
def clJ (v1 v6 : Int32) (b : Bool) (μ12 : Mm) : Option Mm := (if b2i b = 0 then some μ12 else jn (α := Int32) (fun K16 => (if v1 = 1 then K16 v6 else K16 (-v6))) (fun (j14 : Int32) => lt_ (up2 μ12 1 11 ((μ12 1 11) + j14)) fun μ15 => some μ15))
theorem clJ_E {μ0 μ : Mm} {q : Nat} (h : ERs μ0 q μ) (v1 v6 : Int32) (b : Bool) : ∃ μ1, clJ v1 v6 b μ = some μ1 ∧ ERs μ0 q μ1 := by
  unfold clJ
  rw [ite_b0, jn_e]
  by_cases c : b = true
  · rw [if_pos c]
    by_cases d : v1 = 1
    · rw [if_pos d]; exact ⟨_, lt_e _ _, h.m (by omega)⟩
    · rw [if_neg d]; exact ⟨_, lt_e _ _, h.m (by omega)⟩
  · rw [if_neg c]; exact ⟨μ, rfl, h⟩
theorem clK_E {μ0 μ : Mm} {q : Nat} (hq : q ≤ 1000) (h : ERs μ0 q μ) (v1 v6 : Int32) : ∃ μ1, clK v1 v6 μ = some μ1 ∧ ERs μ0 q μ1 := by
  unfold clK
  by_cases c1 : v1 = 4
  · rw [if_pos c1, lt_e]
    exact ⟨_, lt_e _ _, h.m (by omega)⟩
  · rw [if_neg c1]
    by_cases c2 : v1 = 8
    · rw [if_pos c2, lt_e]
      exact ⟨_, lt_e _ _, h.m (by omega)⟩
    · obtain ⟨μ1, a1, a2, a3⟩ := x_expE (k := 32) (K := 32) hq h (by omega) rfl
      obtain ⟨b, μ2, b1, b2, b3⟩ := x_either8E hq a3
      rw [if_neg c2, a1, Option.bind_some, b1, Option.bind_some]
      exact clJ_E b3 v1 v6 b
theorem pC_ok {g : Nat → Nat} (hL : ∀ i, 100 ≤ i → g i = 200) {i j : Nat} {c : Cl} (hi : i ≤ 100) (h : pC g i = .inr (c, j)) : j ≤ 100 ∧ c.1 < 4 ∧ c.2.1 ≤ 99 := by
  have hT : Clo (fun _ => True) := ⟨fun _ _ _ _ _ _ => trivial, fun _ _ => trivial, fun _ _ _ _ => trivial, fun _ _ _ _ => trivial⟩
  unfold pC at h
  cases hw : pW g i with
  | inl q => rw [hw] at h; cases h
  | inr y =>
    obtain ⟨w, j1⟩ := y
    obtain ⟨w1, w2⟩ := pW_ok hL hi hw
    rw [hw] at h
    replace h : (if g j1 = 32 then (match pN g (j1 + 1) with
      | .inl p => .inl p
      | .inr (n, j2) => if 2 ≤ w then .inr ((w, n, ([], fun _ => true)), j2) else if g j2 = 32 then (match pE (pS g 4) g (j2 + 1) with
        | .inl p => .inl p
        | .inr (e, j3) => .inr ((w, n, e), j3)) else .inl j2) else .inl j1 : Nat ⊕ (Cl × Nat)) = .inr (c, j) := h
    by_cases c1 : g j1 = 32
    · rw [if_pos c1] at h
      cases hn : pN g (j1 + 1) with
      | inl q => rw [hn] at h; cases h
      | inr y =>
        obtain ⟨n, j2⟩ := y
        obtain ⟨n1, n2, n3⟩ := pN_ok hL hn
        rw [hn] at h
        replace h : (if 2 ≤ w then .inr ((w, n, ([], fun _ => true)), j2) else if g j2 = 32 then (match pE (pS g 4) g (j2 + 1) with
          | .inl p => .inl p
          | .inr (e, j3) => .inr ((w, n, e), j3)) else .inl j2 : Nat ⊕ (Cl × Nat)) = .inr (c, j) := h
        by_cases c2 : 2 ≤ w
        · rw [if_pos c2] at h
          have h' := Sum.inr.inj h
          have e1 : ((w, n, ([], fun _ => true)) : Cl) = c := congrArg Prod.fst h'
          have e2 : j2 = j := congrArg Prod.snd h'
          subst e1 e2
          exact ⟨n2, w1, n3⟩
        · rw [if_neg c2] at h
          by_cases c3 : g j2 = 32
          · rw [if_pos c3] at h
            cases he : pE (pS g 4) g (j2 + 1) with
            | inl q => rw [he] at h; cases h
            | inr y =>
              obtain ⟨e, j3⟩ := y
              have hj := (pE_ok hT hL (fun i e j h => pS_ok hT hL 4 i e j h) he).2.1
              rw [he] at h
              have h' := Sum.inr.inj h
              have e1 : ((w, n, e) : Cl) = c := congrArg Prod.fst h'
              have e2 : j3 = j := congrArg Prod.snd h'
              subst e1 e2
              exact ⟨hj, w1, n3⟩
          · rw [if_neg c3] at h; cases h
    · rw [if_neg c1] at h; cases h
theorem mx1 {n : Nat} (hn : n ≤ 99) : (if 1 < nI n then nI n else 1) = nI (max 1 n) := by
  rw [q1, ite_lt (by omega) (by omega)]
  by_cases c : 1 < n
  · rw [if_pos c, Nat.max_eq_right (by omega)]
  · rw [if_neg c, Nat.max_eq_left (by omega)]
theorem pw2 : ∀ w, w < 4 → (nI (2 ^ w) = 4) = (w = 2) ∧ (nI (2 ^ w) = 8) = (w = 3) ∧ (nI (2 ^ w) = 1) = (w = 0) := by decide
theorem sub_neg_n (a b n : Nat) : nI a - nI b + -nI n = nI a - nI (b + n) := by
  rw [← nI_sub2, Int32.sub_eq_add_neg (nI a - nI b) (nI n)]
theorem sub_add_n (a b n : Nat) : nI a - nI b + nI n = nI (a + n) - nI b := by
  rw [← nI_add, Int32.sub_eq_add_neg, Int32.sub_eq_add_neg, Int32.add_assoc, Int32.add_comm (-nI b) (nI n), ← Int32.add_assoc]
theorem x_clause {g : Nat → Nat} {μ0 μ : Mm} (G : GT g μ0) {p d kd v : Nat} (E : EN p d kd v μ0) {i : Nat} {m : Mo} (hi : i ≤ 100) (h : OKs g μ0 i μ) (hm : MS m μ) : ∃ μ1, F_Rooms_clause μ = some μ1 ∧ (match pC g i with | .inl q => q ≤ 1000 ∧ ERs μ0 q μ1 | .inr (c, j) => OKs g μ0 j μ1 ∧ MS (cl1 (en p d kd v) c m) μ1) := by
  have hT : Clo (fun _ => True) := ⟨fun _ _ _ _ _ _ => trivial, fun _ _ => trivial, fun _ _ _ _ => trivial, fun _ _ _ _ => trivial⟩
  have errN : ∀ q r μ2, q ≤ 1000 → ERs μ0 q μ2 → ∃ μ1, ((F_Rooms_number μ2).bind fun p_ => match p_ with | (v6, μ7) => clK r v6 μ7) = some μ1 ∧ ERs μ0 q μ1 := fun q r μ2 hq he => by
    obtain ⟨r2, μ3, b1, b2, b3⟩ := x_numE hq he
    rw [b1, Option.bind_some]
    exact clK_E hq b3 r r2
  have errX : ∀ q r μ2, q ≤ 1000 → ERs μ0 q μ2 → ∃ μ1, ((F_Rooms_expects 32 μ2).bind fun μ4 => (F_Rooms_number μ4).bind fun p_ => match p_ with | (v6, μ7) => clK r v6 μ7) = some μ1 ∧ ERs μ0 q μ1 := fun q r μ2 hq he => by
    obtain ⟨μ3, b1, b2, b3⟩ := x_expE (k := 32) (K := 32) hq he (by omega) rfl
    rw [b1, Option.bind_some]
    exact errN q r μ3 hq b3
  obtain ⟨r, μ1, a1, a2, a3⟩ := x_word G hi h
  unfold F_Rooms_clause pC
  rw [a1, Option.bind_some]
  cases hw : pW g i with
  | inl q =>
    rw [hw] at a3
    obtain ⟨μ2, b1, b2⟩ := errX q r μ1 a3.1 a3.2
    exact ⟨μ2, b1, a3.1, b2⟩
  | inr y =>
    obtain ⟨w, j1⟩ := y
    obtain ⟨w1, w2⟩ := pW_ok G.e hi hw
    rw [hw] at a3
    obtain ⟨a4, a5, a6⟩ := a3
    replace a6 : r = nI (2 ^ w) := a6
    subst a6
    obtain ⟨μ2, b1, b2, b3⟩ := x_exp (k := 32) (K := 32) G (by omega) a5 (by omega) rfl
    show ∃ μ1', ((F_Rooms_expects 32 μ1).bind fun μ4 => (F_Rooms_number μ4).bind fun p_ => match p_ with | (v6, μ7) => clK (nI (2 ^ w)) v6 μ7) = some μ1' ∧ (match (if g j1 = 32 then (match pN g (j1 + 1) with
      | .inl p => .inl p
      | .inr (n, j2) => if 2 ≤ w then .inr ((w, n, ([], fun _ => true)), j2) else if g j2 = 32 then (match pE (pS g 4) g (j2 + 1) with
        | .inl p => .inl p
        | .inr (e, j3) => .inr ((w, n, e), j3)) else .inl j2) else .inl j1 : Nat ⊕ (Cl × Nat)) with | .inl q => q ≤ 1000 ∧ ERs μ0 q μ1' | .inr (c, j) => OKs g μ0 j μ1' ∧ MS (cl1 (en p d kd v) c m) μ1')
    rw [b1, Option.bind_some]
    rcases b3 with ⟨c1, b3⟩ | ⟨c1, b3⟩
    · obtain ⟨r2, μ3, d1, d2, d3⟩ := x_num G (by omega) b3
      rw [d1, Option.bind_some, if_pos c1]
      have m3 : M3 μ μ3 := (a2.tr b2).tr d2
      cases hn : pN g (j1 + 1) with
      | inl q =>
        rw [hn] at d3
        obtain ⟨μ4, e1, e2⟩ := clK_E d3.1 d3.2 (nI (2 ^ w)) r2
        exact ⟨μ4, e1, d3.1, e2⟩
      | inr y =>
        obtain ⟨n, j2⟩ := y
        obtain ⟨n1, n2, n3⟩ := pN_ok G.e hn
        rw [hn] at d3
        obtain ⟨d4, d5, d6⟩ := d3
        replace d6 : r2 = nI n := d6
        subst d6
        obtain ⟨f1, f2, f3⟩ := hm.m3 m3
        obtain ⟨pw4, pw8, pw1⟩ := pw2 w w1
        show ∃ μ1', clK (nI (2 ^ w)) (nI n) μ3 = some μ1' ∧ (match (if 2 ≤ w then .inr ((w, n, ([], fun _ => true)), j2) else if g j2 = 32 then (match pE (pS g 4) g (j2 + 1) with
          | .inl p => .inl p
          | .inr (e, j3) => .inr ((w, n, e), j3)) else .inl j2 : Nat ⊕ (Cl × Nat)) with | .inl q => q ≤ 1000 ∧ ERs μ0 q μ1' | .inr (c, j) => OKs g μ0 j μ1' ∧ MS (cl1 (en p d kd v) c m) μ1')
        unfold clK
        simp only [pw4, pw8, mx1 n3]
        by_cases w2 : w = 2
        · subst w2
          rw [if_pos rfl, if_pos (by omega), lt_e]
          refine ⟨_, lt_e _ _, d5.m (by omega), (u_nj (by omega)).trans f1, u_eq rfl rfl, (u_nj (by omega)).trans f3⟩
        · rw [if_neg w2]
          by_cases w3 : w = 3
          · subst w3
            rw [if_pos rfl, if_pos (by omega), lt_e]
            refine ⟨_, lt_e _ _, d5.m (by omega), (u_nj (by omega)).trans f1, (u_nj (by omega)).trans f2, u_eq rfl rfl⟩
          · rw [if_neg w3, if_neg (show ¬ 2 ≤ w by omega)]
            obtain ⟨μ4, e1, e2, e3⟩ := x_exp (k := 32) (K := 32) G (by omega) d5 (by omega) rfl
            rw [e1, Option.bind_some]
            rcases e3 with ⟨c2, e3⟩ | ⟨c2, e3⟩
            · obtain ⟨b, μ5, k1, k2, k3⟩ := x_either8 G E (by have := n2; have : j2 < 100 := Nat.lt_of_not_le (fun x => by rw [G.e j2 x] at c2; omega); omega) e3
              rw [k1, Option.bind_some, if_pos c2]
              cases he : pE (pS g 4) g (j2 + 1) with
              | inl q =>
                rw [he] at k3
                obtain ⟨μ6, l1, l2⟩ := clJ_E k3.2 (nI (2 ^ w)) (nI n) b
                exact ⟨μ6, l1, k3.1, l2⟩
              | inr y =>
                obtain ⟨e, j3⟩ := y
                rw [he] at k3
                obtain ⟨k4, k5, k6⟩ := k3
                obtain ⟨f4, f5, f6⟩ := (show MS m μ3 from ⟨f1, f2, f3⟩).m3 (e2.tr k2)
                have hc : cl1 (en p d kd v) (w, n, e) m = if b = true then (if w = 0 then (m.1 + n, m.2.1, m.2.2.1, m.2.2.2) else (m.1, m.2.1 + n, m.2.2.1, m.2.2.2)) else m := by
                  rw [show b = e.2 (en p d kd v) from k6]
                  unfold cl1
                  rw [if_neg (show ¬ ((w, n, e) : Cl).1 = 2 from w2), if_neg (show ¬ ((w, n, e) : Cl).1 = 3 from w3)]
                show ∃ μ1', clJ (nI (2 ^ w)) (nI n) b μ5 = some μ1' ∧ OKs g μ0 j3 μ1' ∧ MS (cl1 (en p d kd v) (w, n, e) m) μ1'
                rw [hc]
                unfold clJ
                rw [ite_b0, jn_e, f4]
                by_cases cb : b = true
                · rw [if_pos cb, if_pos cb]
                  simp only [pw1]
                  by_cases w0 : w = 0
                  · rw [if_pos w0, if_pos w0, sub_add_n]
                    exact ⟨_, lt_e _ _, k5.m (by omega), u_eq rfl rfl, (u_nj (by omega)).trans f5, (u_nj (by omega)).trans f6⟩
                  · rw [if_neg w0, if_neg w0, sub_neg_n]
                    exact ⟨_, lt_e _ _, k5.m (by omega), u_eq rfl rfl, (u_nj (by omega)).trans f5, (u_nj (by omega)).trans f6⟩
                · rw [if_neg cb, if_neg cb]
                  exact ⟨μ5, rfl, k5, f4, f5, f6⟩
            · obtain ⟨b, μ5, k1, k2, k3⟩ := x_either8E (by omega) e3
              rw [k1, Option.bind_some, if_neg c2]
              obtain ⟨μ6, l1, l2⟩ := clJ_E k3 (nI (2 ^ w)) (nI n) b
              exact ⟨μ6, l1, (by omega : j2 ≤ 1000), l2⟩
    · rw [if_neg c1]
      obtain ⟨μ4, e1, e2⟩ := errN j1 (nI (2 ^ w)) μ2 (by omega) b3
      exact ⟨μ4, e1, (by omega : j1 ≤ 1000), e2⟩
