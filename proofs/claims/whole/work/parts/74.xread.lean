/-! the class reads a text -/
def sI (c : Nat) : Int32 := if c = 200 then -1 else nI c
def GT (g : Nat → Nat) (μ0 : Mm) : Prop := ∃ ρ L tx, ρ ≤ 6 ∧ L ≤ 100 ∧ μ0 1 3 = nI ρ ∧ μ0 10 ρ = nI L ∧ (∀ j, j < L → tx j < 128 ∧ μ0 (3 + ρ) j = nI (tx j)) ∧ ∀ i, g i = sgn L tx i
def Bs (μ0 μ : Mm) : Prop := (∀ c, c ≠ 1 → μ c = μ0 c) ∧ ∀ j, (j = 2 ∨ j = 3 ∨ (7 ≤ j ∧ j ≤ 10)) → μ 1 j = μ0 1 j
def OKs (g : Nat → Nat) (μ0 : Mm) (i : Nat) (μ : Mm) : Prop := Bs μ0 μ ∧ μ 1 4 = nI i ∧ μ 1 5 = sI (g i) ∧ μ 1 6 = -1
def ERs (μ0 : Mm) (p : Nat) (μ : Mm) : Prop := Bs μ0 μ ∧ μ 1 4 = nI p ∧ μ 1 5 = -1 ∧ μ 1 6 = nI p
def M3 (μ μ1 : Mm) : Prop := ∀ j, 11 ≤ j → μ1 1 j = μ 1 j
theorem M3.tr {μ μ1 μ2 : Mm} (h1 : M3 μ μ1) (h2 : M3 μ1 μ2) : M3 μ μ2 := fun j h => (h2 j h).trans (h1 j h)
theorem M3.rf {μ : Mm} : M3 μ μ := fun _ _ => rfl
theorem Bs.rf {μ : Mm} : Bs μ μ := ⟨fun _ _ => rfl, fun _ _ => rfl⟩
theorem Bs.up {μ0 μ : Mm} (h : Bs μ0 μ) {j : Nat} {x : Int32} (hj : (3 < j ∧ j < 7) ∨ 10 < j) : Bs μ0 (up2 μ 1 j x) := ⟨fun c hc => by rw [u_cf hc]; exact h.1 c hc, fun k hk => by rw [u_nj (by omega)]; exact h.2 k hk⟩
theorem GT.lt {g : Nat → Nat} {μ0 : Mm} (h : GT g μ0) (i : Nat) : g i < 128 ∨ g i = 200 := by
  obtain ⟨ρ, L, tx, _, _, _, _, h1, h2⟩ := h
  rw [h2 i]
  unfold sgn
  by_cases c : i < L
  · rw [if_pos c]; exact Or.inl (h1 i c).1
  · rw [if_neg c]; exact Or.inr rfl
theorem GT.e {g : Nat → Nat} {μ0 : Mm} (h : GT g μ0) : ∀ i, 100 ≤ i → g i = 200 := fun i hi => by
  obtain ⟨ρ, L, tx, _, _, _, _, h1, h2⟩ := h
  rw [h2 i]
  unfold sgn
  rw [if_neg (by omega)]
theorem sI_eq {c k : Nat} (hc : c < 128 ∨ c = 200) (hk : k < 128) {K : Int32} (hK : K = nI k) : (sI c = K) = (c = k) := by
  subst hK
  unfold sI
  by_cases h : c = 200
  · rw [if_pos h]
    exact propext ⟨fun q => absurd q.symm (nI_m1 (by omega)), fun q => by omega⟩
  · rw [if_neg h]
    exact propext (nI_eq (by omega) (by omega))
theorem ite_s {α : Sort _} {x y : α} {c k : Nat} (hc : c < 128 ∨ c = 200) (hk : k < 128) {K : Int32} (hK : K = nI k) : (if sI c = K then x else y) = if c = k then x else y := by
  simp only [sI_eq hc hk hK]
theorem x_steps {g : Nat → Nat} {μ0 μ : Mm} (G : GT g μ0) {i : Nat} {x : Int32} (h : Bs μ0 μ) (hx : μ 1 4 = x) (hx' : x + 1 = nI i) (hi : i ≤ 1000) (h6 : μ 1 6 = -1) : ∃ μ1, F_Rooms_steps μ = some μ1 ∧ OKs g μ0 i μ1 ∧ M3 μ μ1 := by
  obtain ⟨ρ, L, tx, g1, g2, g3, g4, g5, g6⟩ := G
  unfold F_Rooms_steps
  rw [lt_e, hx, hx']
  have e3 : up2 μ 1 4 (nI i) 1 3 = nI ρ := by rw [u_nj (by omega), h.2 3 (by omega)]; exact g3
  have e4 : up2 μ 1 4 (nI i) 1 4 = nI i := u_eq rfl rfl
  have e10 : up2 μ 1 4 (nI i) 10 ρ = nI L := by rw [u_nc (by omega), h.1 10 (by omega)]; exact g4
  rw [e3, rdI_nI (by omega) (by omega), Option.bind_some, e10, e4, jn_e, jn_e, rdR_nI (by omega) (by omega), Option.bind_some, show (100 : Int32) = nI 100 from rfl, ite_le (by omega) (by omega), ite_le (by omega) (by omega)]
  have key : ∀ y : Int32, y = sI (g i) → ∃ μ1, (lt_ (up2 (up2 μ 1 4 (nI i)) 1 5 y) fun μ7 => some μ7) = some μ1 ∧ OKs g μ0 i μ1 ∧ M3 μ μ1 := fun y hy => by
    refine ⟨_, lt_e _ _, ⟨(h.up (by omega)).up (by omega), (u_nj (by omega)).trans e4, (u_eq rfl rfl).trans hy, by rw [u_nj (by omega), u_nj (by omega)]; exact h6⟩, fun j hj => by rw [u_nj (by omega), u_nj (by omega)]⟩
  have gi := g6 i
  unfold sgn at gi
  by_cases c1 : L ≤ i
  · rw [if_pos c1]
    exact key _ (by rw [gi, if_neg (by omega)]; rfl)
  · rw [if_neg c1, if_neg (by omega), rdI_nI (by omega) (by omega), Option.bind_some, u_nc (by omega), h.1 _ (by omega), (g5 i (by omega)).2]
    have := (g5 i (by omega)).1
    exact key _ (by rw [gi, if_pos (by omega)]; unfold sI; rw [if_neg (by omega)])
theorem OKs.steps {g : Nat → Nat} {μ0 μ : Mm} (G : GT g μ0) {i : Nat} (h : OKs g μ0 i μ) (hi : i < 1000) : ∃ μ1, F_Rooms_steps μ = some μ1 ∧ OKs g μ0 (i + 1) μ1 ∧ M3 μ μ1 := x_steps G h.1 h.2.1 (nI_1 i) (by omega) h.2.2.2
theorem OKs.fails {g : Nat → Nat} {μ0 μ : Mm} {i : Nat} (h : OKs g μ0 i μ) : ∃ μ1, F_Rooms_fails μ = some μ1 ∧ ERs μ0 i μ1 ∧ M3 μ μ1 := by
  obtain ⟨h1, h2, h3, h4⟩ := h
  unfold F_Rooms_fails
  rw [jn_e, h4, if_neg (by decide), lt_e]
  exact ⟨_, Eq.trans (lt_e _ _) rfl, ⟨(h1.up (by omega)).up (by omega), by rw [u_nj (by omega), u_nj (by omega)]; exact h2, u_eq rfl rfl, by rw [u_nj (by omega), u_eq rfl rfl]; exact h2⟩, fun j hj => by rw [u_nj (by omega), u_nj (by omega)]⟩
theorem ERs.fails {μ0 μ : Mm} {p : Nat} (hp : p ≤ 1000) (h : ERs μ0 p μ) : ∃ μ1, F_Rooms_fails μ = some μ1 ∧ ERs μ0 p μ1 ∧ M3 μ μ1 := by
  obtain ⟨h1, h2, h3, h4⟩ := h
  unfold F_Rooms_fails
  rw [jn_e, h4, if_pos (nI_pos' (by omega))]
  exact ⟨_, Eq.trans (lt_e _ _) rfl, ⟨h1.up (by omega), by rw [u_nj (by omega)]; exact h2, u_eq rfl rfl, by rw [u_nj (by omega)]; exact h4⟩, fun j hj => by rw [u_nj (by omega)]⟩
/-- what comes of a reading -/
def Ps {α : Type} (g : Nat → Nat) (μ0 : Mm) (P : Nat ⊕ (α × Nat)) (W : α → Prop) (μ : Mm) : Prop := match P with
  | .inl q => q ≤ 1000 ∧ ERs μ0 q μ
  | .inr (a, j) => j ≤ 1000 ∧ OKs g μ0 j μ ∧ W a
theorem x_dig {g : Nat → Nat} {μ0 μ : Mm} (G : GT g μ0) {i : Nat} (h : μ 1 5 = sI (g i)) : F_Rooms_isDigit μ = some (b2i (dgt (g i))) := by
  unfold F_Rooms_isDigit
  rw [h]
  have fin : ∀ c, c < 128 → (if sI c < 48 then some 0 else (if 57 < sI c then some 0 else some 1)) = some (b2i (dgt c)) := by decide +kernel
  rcases G.lt i with q | q
  · exact fin _ q
  · rw [q]; decide
theorem x_digE {μ : Mm} (h : μ 1 5 = -1) : F_Rooms_isDigit μ = some 0 := by
  unfold F_Rooms_isDigit
  rw [h]
  decide
theorem dgt_c {c : Nat} (h : dgt c = true) : 48 ≤ c ∧ c ≤ 57 := by
  obtain ⟨h1, h2⟩ := (Bool.and_eq_true _ _).mp h
  exact ⟨of_decide_eq_true h1, of_decide_eq_true h2⟩
theorem dg_48 : ∀ c, c < 128 → 48 ≤ c → sI c - 48 = nI (c - 48) := by decide +kernel
theorem dg_10 : ∀ a, a < 58 → 48 ≤ a → ∀ b, b < 58 → 48 ≤ b → nI (a - 48) * 10 + sI b - 48 = nI (10 * (a - 48) + (b - 48)) := by decide +kernel
theorem x_num {g : Nat → Nat} {μ0 μ : Mm} (G : GT g μ0) {i : Nat} (hi : i ≤ 300) (h : OKs g μ0 i μ) : ∃ r μ1, F_Rooms_number μ = some (r, μ1) ∧ M3 μ μ1 ∧ Ps g μ0 (pN g i) (fun n => r = nI n) μ1 := by
  unfold F_Rooms_number pN
  rw [x_dig G h.2.2.1, Option.bind_some, ite_b0]
  by_cases c1 : dgt (g i) = true
  · obtain ⟨a1, a2⟩ := dgt_c c1
    obtain ⟨μ1, s1, s2, s3⟩ := h.steps G (by omega)
    rw [if_pos c1, if_pos c1, s1, Option.bind_some, x_dig G s2.2.2.1, Option.bind_some, ite_b0, h.2.2.1, dg_48 _ (by omega) a1]
    by_cases c2 : dgt (g (i + 1)) = true
    · obtain ⟨b1, b2⟩ := dgt_c c2
      obtain ⟨μ2, t1, t2, t3⟩ := s2.steps G (by omega)
      rw [if_pos c2, if_pos c2, lt_e, t1, Option.bind_some, s2.2.2.1, dg_10 _ (by omega) a1 _ (by omega) b1]
      exact ⟨_, μ2, rfl, s3.tr t3, (by omega : i + 2 ≤ 1000), t2, rfl⟩
    · rw [if_neg c2, if_neg c2]
      exact ⟨_, μ1, rfl, s3, (by omega : i + 1 ≤ 1000), s2, rfl⟩
  · obtain ⟨μ1, s1, s2, s3⟩ := h.fails
    rw [if_neg c1, if_neg c1, s1, Option.bind_some]
    exact ⟨_, μ1, rfl, s3, (by omega : i ≤ 1000), s2⟩
theorem x_numE {μ0 μ : Mm} {p : Nat} (hp : p ≤ 1000) (h : ERs μ0 p μ) : ∃ r μ1, F_Rooms_number μ = some (r, μ1) ∧ M3 μ μ1 ∧ ERs μ0 p μ1 := by
  obtain ⟨μ1, s1, s2, s3⟩ := h.fails hp
  unfold F_Rooms_number
  rw [x_digE h.2.2.1, Option.bind_some, if_pos rfl, s1, Option.bind_some]
  exact ⟨_, μ1, rfl, s3, s2⟩
theorem x_exp {g : Nat → Nat} {μ0 μ : Mm} (G : GT g μ0) {i k : Nat} (hi : i ≤ 300) (h : OKs g μ0 i μ) {K : Int32} (hk : k < 128) (hK : K = nI k) : ∃ μ1, F_Rooms_expects K μ = some μ1 ∧ M3 μ μ1 ∧ ((g i = k ∧ OKs g μ0 (i + 1) μ1) ∨ (g i ≠ k ∧ ERs μ0 i μ1)) := by
  unfold F_Rooms_expects
  rw [h.2.2.1, ite_s (G.lt i) hk hK]
  by_cases c : g i = k
  · obtain ⟨μ1, s1, s2, s3⟩ := h.steps G (by omega)
    rw [if_pos c, s1, Option.bind_some]
    exact ⟨μ1, rfl, s3, Or.inl ⟨c, s2⟩⟩
  · obtain ⟨μ1, s1, s2, s3⟩ := h.fails
    rw [if_neg c, s1, Option.bind_some]
    exact ⟨μ1, rfl, s3, Or.inr ⟨c, s2⟩⟩
theorem x_expE {μ0 μ : Mm} {p k : Nat} (hp : p ≤ 1000) (h : ERs μ0 p μ) {K : Int32} (hk : k < 128) (hK : K = nI k) : ∃ μ1, F_Rooms_expects K μ = some μ1 ∧ M3 μ μ1 ∧ ERs μ0 p μ1 := by
  obtain ⟨μ1, s1, s2, s3⟩ := h.fails hp
  unfold F_Rooms_expects
  rw [h.2.2.1, if_neg (by rw [hK]; exact fun q => nI_m1 (by omega) q.symm), s1, Option.bind_some]
  exact ⟨μ1, rfl, s3, s2⟩
/-! tests -/
def EN (p d kd v : Nat) (μ0 : Mm) : Prop := μ0 1 7 = nI p ∧ μ0 1 8 = nI kd ∧ μ0 1 9 = nI v ∧ μ0 1 10 = nI d ∧ p < 6 ∧ d < 6 ∧ kd ≤ 6 ∧ v ≤ 9
def en (p d kd v : Nat) : Nat → Nat := fun f => if f = 0 then p else if f = 1 then d else if f = 2 then kd else if f = 3 then v else if f = 4 then d / 3 else d % 3
theorem en_le {p d kd v : Nat} (h : p < 6 ∧ d < 6 ∧ kd ≤ 6 ∧ v ≤ 9) (f : Nat) : en p d kd v f ≤ 9 := by
  unfold en
  repeat' split
  all_goals omega
theorem x_letter {g : Nat → Nat} {μ0 μ : Mm} (G : GT g μ0) {p d kd v : Nat} (E : EN p d kd v μ0) (B : Bs μ0 μ) {c : Nat} (hc : c < 128 ∨ c = 200) (h5 : μ 1 5 = sI c) : F_Rooms_letter μ = some (match fct c with | none => -1 | some f => nI (en p d kd v f)) := by
  obtain ⟨e1, e2, e3, e4, _, _, _, _⟩ := E
  have b7 : μ 1 7 = nI p := (B.2 7 (by omega)).trans e1
  have b8 : μ 1 8 = nI kd := (B.2 8 (by omega)).trans e2
  have b9 : μ 1 9 = nI v := (B.2 9 (by omega)).trans e3
  have b10 : μ 1 10 = nI d := (B.2 10 (by omega)).trans e4
  unfold F_Rooms_letter
  rw [h5, b7, b8, b9, b10, ite_s (K := 99) hc (k := 99) (by omega) rfl, ite_s (K := 100) hc (k := 100) (by omega) rfl, ite_s (K := 101) hc (k := 101) (by omega) rfl, ite_s (K := 102) hc (k := 102) (by omega) rfl, ite_s (K := 103) hc (k := 103) (by omega) rfl, ite_s (K := 104) hc (k := 104) (by omega) rfl, ite_s (K := 105) hc (k := 105) (by omega) rfl, ite_s (K := 106) hc (k := 106) (by omega) rfl, ite_s (K := 107) hc (k := 107) (by omega) rfl, ite_s (K := 108) hc (k := 108) (by omega) rfl, ite_s (K := 109) hc (k := 109) (by omega) rfl, ite_s (K := 110) hc (k := 110) (by omega) rfl, ite_s (K := 111) hc (k := 111) (by omega) rfl, ite_s (K := 112) hc (k := 112) (by omega) rfl, ite_s (K := 113) hc (k := 113) (by omega) rfl, ite_s (K := 114) hc (k := 114) (by omega) rfl, ite_s (K := 115) hc (k := 115) (by omega) rfl, ite_s (K := 116) hc (k := 116) (by omega) rfl, ite_s (K := 117) hc (k := 117) (by omega) rfl, ite_s (K := 118) hc (k := 118) (by omega) rfl]
  have hr : nI d - nI d / 3 * 3 = nI (d % 3) := nI_remP (a := d) (d := 3) (by omega) (by omega) (by omega)
  have hd : nI d / 3 = nI (d / 3) := pk_div (a := d) (d := 3) (by omega) (by omega) (by omega)
  by_cases c1 : c = 112
  · subst c1; rfl
  by_cases c2 : c = 100
  · subst c2; rfl
  by_cases c3 : c = 107
  · subst c3; rfl
  by_cases c4 : c = 118
  · subst c4; rfl
  by_cases c5 : c = 114
  · subst c5; rw [hd]; rfl
  by_cases c6 : c = 99
  · subst c6; rw [hr]; rfl
  have ef : fct c = none := by
    unfold fct
    rw [if_neg c1, if_neg c2, if_neg c3, if_neg c4, if_neg c5, if_neg c6]
  rw [ef]
  show _ = some (-1 : Int32)
  simp only [if_neg c1, if_neg c2, if_neg c3, if_neg c4, if_neg c5, if_neg c6, ite_self]
theorem x_test {g : Nat → Nat} {μ0 μ : Mm} (G : GT g μ0) {p d kd v : Nat} (E : EN p d kd v μ0) {i : Nat} (hi : i ≤ 200) (h : OKs g μ0 i μ) : ∃ b μ1, F_Rooms_test μ = some (b2i b, μ1) ∧ M3 μ μ1 ∧ Ps g μ0 (pT g i) (fun e => b = e.2 (en p d kd v)) μ1 := by
  unfold F_Rooms_test pT
  rw [x_letter G E h.1 (G.lt i) h.2.2.1, Option.bind_some]
  cases hf : fct (g i) with
  | none =>
    obtain ⟨μ1, s1, s2, s3⟩ := h.fails
    rw [if_neg (show ¬ (0 : Int32) ≤ -1 by decide), s1, Option.bind_some]
    exact ⟨false, μ1, rfl, s3, (by omega : i ≤ 1000), s2⟩
  | some f =>
    have el := en_le (p := p) (d := d) (kd := kd) (v := v) E.2.2.2.2 f
    obtain ⟨μ1, s1, s2, s3⟩ := h.steps G (by omega)
    show ∃ b μ2, (if 0 ≤ nI (en p d kd v f) then _ else _) = some (b2i b, μ2) ∧ M3 μ μ2 ∧ Ps g μ0 (if 60 ≤ g (i + 1) ∧ g (i + 1) ≤ 62 then (match pN g (i + 2) with
      | .inl p => .inl p
      | .inr (n, j) => .inr (tT f (g (i + 1) - 60) n, j)) else .inl (i + 1)) (fun e => b = e.2 (en p d kd v)) μ2
    have hg := G.lt (i + 1)
    rw [if_pos (nI_pos' (by omega)), s1, Option.bind_some, jn_e, s2.2.2.1, ite_s (K := 60) hg (k := 60) (by omega) rfl, ite_s (K := 61) hg (k := 61) (by omega) rfl, ite_s (K := 62) hg (k := 62) (by omega) rfl]
    -- once the sign is one of the three
    have key : ∀ s, (s = 60 ∨ s = 61 ∨ s = 62) → g (i + 1) = s → ∃ b μ2, ((F_Rooms_steps μ1).bind fun μ7 => (F_Rooms_number μ7).bind fun p_ => match p_ with | (v9, μ10) => (if sI (g (i + 1)) = 60 then (if v9 ≤ nI (en p d kd v f) then some ((0 : Int32), μ10) else some (1, μ10)) else (if sI (g (i + 1)) = 61 then (if nI (en p d kd v f) = v9 then some (1, μ10) else some (0, μ10)) else (if nI (en p d kd v f) ≤ v9 then some (0, μ10) else some (1, μ10))))) = some (b2i b, μ2) ∧ M3 μ μ2 ∧ Ps g μ0 (match pN g (i + 2) with
      | .inl p => .inl p
      | .inr (n, j) => .inr (tT f (g (i + 1) - 60) n, j)) (fun e => b = e.2 (en p d kd v)) μ2 := by
      intro s hs hgs
      obtain ⟨μ2, t1, t2, t3⟩ := s2.steps G (by omega)
      obtain ⟨r, μ3, u1, u2, u3⟩ := x_num G (by omega) t2
      rw [t1, Option.bind_some, u1, Option.bind_some]
      simp only []
      rw [ite_s (K := 60) hg (k := 60) (by omega) rfl, ite_s (K := 61) hg (k := 61) (by omega) rfl]
      have m3 : M3 μ μ3 := (s3.tr t3).tr u2
      cases hn : pN g (i + 2) with
      | inl q =>
        rw [show i + 1 + 1 = i + 2 from rfl, hn] at u3
        have bits : ∀ r : Int32, ∃ b, (if g (i + 1) = 60 then (if r ≤ nI (en p d kd v f) then some ((0 : Int32), μ3) else some (1, μ3)) else (if g (i + 1) = 61 then (if nI (en p d kd v f) = r then some (1, μ3) else some (0, μ3)) else (if nI (en p d kd v f) ≤ r then some (0, μ3) else some (1, μ3)))) = some (b2i b, μ3) := fun r => by
          repeat' split
          all_goals first | exact ⟨false, rfl⟩ | exact ⟨true, rfl⟩
        obtain ⟨b, hb⟩ := bits r
        exact ⟨b, μ3, hb, m3, u3.1, u3.2⟩
      | inr x =>
        obtain ⟨n, j⟩ := x
        rw [show i + 1 + 1 = i + 2 from rfl, hn] at u3
        obtain ⟨u4, u5, u6⟩ := u3
        have hn99 := (pN_ok G.e hn).2.2
        replace u6 : r = nI n := u6
        subst u6
        rw [ite_le (by omega) (by omega), ite_le (by omega) (by omega), ite_eq (by omega) (by omega)]
        have fin : ∀ b : Bool, b = tv (g (i + 1) - 60) (en p d kd v f) n → ∃ b' μ2, some (b2i b, μ3) = some (b2i b', μ2) ∧ M3 μ μ2 ∧ Ps g μ0 (.inr (tT f (g (i + 1) - 60) n, j)) (fun e => b' = e.2 (en p d kd v)) μ2 := fun b hb => ⟨b, μ3, rfl, m3, u4, u5, hb⟩
        unfold tv at fin
        rcases hs with rfl | rfl | rfl
        · rw [hgs] at fin ⊢
          rw [if_pos rfl]
          by_cases c : n ≤ en p d kd v f
          · rw [if_pos c]
            exact fin false (by show false = decide (en p d kd v f < n); rw [decide_eq_false (by omega)])
          · rw [if_neg c]
            exact fin true (by show true = decide (en p d kd v f < n); rw [decide_eq_true (by omega)])
        · rw [hgs] at fin ⊢
          rw [if_neg (by decide), if_pos rfl]
          by_cases c : en p d kd v f = n
          · rw [if_pos c]
            exact fin true (by show true = decide (en p d kd v f = n); rw [decide_eq_true c])
          · rw [if_neg c]
            exact fin false (by show false = decide (en p d kd v f = n); rw [decide_eq_false c])
        · rw [hgs] at fin ⊢
          rw [if_neg (by decide), if_neg (by decide)]
          by_cases c : en p d kd v f ≤ n
          · rw [if_pos c]
            exact fin false (by show false = decide (n < en p d kd v f); rw [decide_eq_false (by omega)])
          · rw [if_neg c]
            exact fin true (by show true = decide (n < en p d kd v f); rw [decide_eq_true (by omega)])
    by_cases c1 : g (i + 1) = 60
    · rw [if_pos c1, if_pos (show 60 ≤ g (i + 1) ∧ g (i + 1) ≤ 62 by omega)]
      exact key 60 (by omega) c1
    · rw [if_neg c1]
      by_cases c2 : g (i + 1) = 61
      · rw [if_pos c2, if_pos (show 60 ≤ g (i + 1) ∧ g (i + 1) ≤ 62 by omega)]
        exact key 61 (by omega) c2
      · rw [if_neg c2]
        by_cases c3 : g (i + 1) = 62
        · rw [if_pos c3, if_pos (show 60 ≤ g (i + 1) ∧ g (i + 1) ≤ 62 by omega)]
          exact key 62 (by omega) c3
        · obtain ⟨μ2, t1, t2, t3⟩ := s2.fails
          rw [if_neg c3, if_neg (show ¬ (60 ≤ g (i + 1) ∧ g (i + 1) ≤ 62) by omega), t1, Option.bind_some]
          exact ⟨false, μ2, rfl, s3.tr t3, (by omega : i + 1 ≤ 1000), t2⟩
theorem x_testE {μ0 μ : Mm} {q : Nat} (hq : q ≤ 1000) (h : ERs μ0 q μ) : ∃ μ1, F_Rooms_test μ = some (0, μ1) ∧ M3 μ μ1 ∧ ERs μ0 q μ1 := by
  obtain ⟨μ1, s1, s2, s3⟩ := h.fails hq
  have e : F_Rooms_letter μ = some (-1) := by
    unfold F_Rooms_letter
    rw [h.2.2.1]
    rfl
  unfold F_Rooms_test
  rw [e, Option.bind_some, if_neg (by decide), s1, Option.bind_some]
  exact ⟨μ1, rfl, s3, s2⟩
/-! what holds: with brackets, behind marks -/
theorem b2i_ne : ∀ a b : Bool, (if b2i a = b2i b then some (0 : Int32) else some 1) = some (b2i (a != b)) := by decide
theorem ite_bb {α : Type} (a b : Bool) (μ : α) : (if b2i a = b2i b then some ((0 : Int32), μ) else some (1, μ)) = some (b2i (a != b), μ) := by
  cases a <;> cases b <;> rfl
theorem b2i_and : ∀ a b : Bool, b2i a &&& b2i b = b2i (a && b) := by decide
theorem b2i_or : ∀ a b : Bool, b2i a ||| b2i b = b2i (a || b) := by decide
/-- what `single` does behind the marks -/
def sgK (rec : Int32 → Mm → Option (Int32 × Mm)) : Int32 → Int32 → Mm → Option (Int32 × Mm) := fun (x8 : Int32) (x9 : Int32) (μ10 : Mm) => jn (α := Unit) (fun K21 => (if (μ10 1 5) = 40 then (if 4 ≤ x8 then K21 () else (F_Rooms_steps μ10).bind fun μ11 => (rec (x8 + 1) μ11).bind fun p_ => match p_ with | (v13, μ14) => (F_Rooms_expects 41 μ14).bind fun μ16 => (if v13 = x9 then some (0, μ16) else some (1, μ16))) else K21 ())) (fun (_ : Unit) => (F_Rooms_test μ10).bind fun p_ => match p_ with | (v18, μ19) => (if v18 = x9 then some (0, μ19) else some (1, μ19)))
def etK : Int32 → Int32 → Mm → Option (Int32 × Mm) := fun (x26 : Int32) (x27 : Int32) (μ28 : Mm) => jn (α := Unit) (fun K29 => (if x26 = 0 then (if x27 = 0 then some (0, μ28) else K29 ()) else K29 ())) (fun (_ : Unit) => some (1, μ28))
theorem etK_e (a b : Bool) (μ : Mm) : etK (b2i a) (b2i b) μ = some (b2i (a || b), μ) := by
  unfold etK
  rw [jn_e]
  cases a <;> cases b <;> rfl
/-- both bits, the second asked only where the first does not decide -/
theorem ei_and (rec : Int32 → Mm → Option (Int32 × Mm)) (o : Int32) (k : Int32 → Int32 → Mm → Option (Int32 × Mm)) (n : Nat) (y x : Int32) (a b : Bool) (μ : Mm) : (if b2i a = 0 then L_Rooms_either_11 rec o k n y 0 x μ else (if b2i b = 0 then L_Rooms_either_11 rec o k n y 0 x μ else L_Rooms_either_11 rec o k n y 1 x μ)) = L_Rooms_either_11 rec o k n y (b2i (a && b)) x μ := by
  rw [ite_b0, ite_b0]
  cases a <;> cases b <;> rfl
theorem ei_or (rec : Int32 → Mm → Option (Int32 × Mm)) (o : Int32) (k : Int32 → Int32 → Mm → Option (Int32 × Mm)) (n : Nat) (y x : Int32) (a b : Bool) (μ : Mm) : (if b2i a = 0 then (if b2i b = 0 then L_Rooms_either_11 rec o k n 0 y x μ else L_Rooms_either_11 rec o k n 1 y x μ) else L_Rooms_either_11 rec o k n 1 y x μ) = L_Rooms_either_11 rec o k n (b2i (a || b)) y x μ := by
  rw [ite_b0, ite_b0]
  cases a <;> cases b <;> rfl
theorem sgK_t {g : Nat → Nat} {μ0 μ : Mm} (G : GT g μ0) {p d kd v : Nat} (E : EN p d kd v μ0) (rec : Int32 → Mm → Option (Int32 × Mm)) {i o : Nat} {nt : Bool} (hi : i ≤ 200) (h : OKs g μ0 i μ) (ho : o ≤ 4) (hc : g i = 40 → o = 4) : ∃ b μ1, sgK rec (nI o) (b2i nt) μ = some (b2i b, μ1) ∧ M3 μ μ1 ∧ Ps g μ0 (pT g i) (fun e => b = (e.2 (en p d kd v) != nt)) μ1 := by
  have tst : ∃ b μ1, ((F_Rooms_test μ).bind fun p_ => match p_ with | (v18, μ19) => (if v18 = b2i nt then some ((0 : Int32), μ19) else some (1, μ19))) = some (b2i b, μ1) ∧ M3 μ μ1 ∧ Ps g μ0 (pT g i) (fun e => b = (e.2 (en p d kd v) != nt)) μ1 := by
    obtain ⟨b, μ1, a1, a2, a3⟩ := x_test G E hi h
    rw [a1, Option.bind_some]
    simp only []
    rw [ite_bb]
    refine ⟨b != nt, μ1, rfl, a2, ?_⟩
    cases hp : pT g i with
    | inl q => rw [hp] at a3; exact a3
    | inr x =>
      rw [hp] at a3
      obtain ⟨e, j⟩ := x
      obtain ⟨a4, a5, a6⟩ := a3
      exact ⟨a4, a5, by rw [show b = e.2 (en p d kd v) from a6]⟩
  unfold sgK
  rw [jn_e, h.2.2.1, ite_s (K := 40) (G.lt i) (k := 40) (by omega) rfl]
  by_cases c : g i = 40
  · rw [if_pos c, q4, ite_le (by omega) (by omega), if_pos (by have := hc c; omega)]
    exact tst
  · rw [if_neg c]
    exact tst
theorem sgK_E {μ0 μ : Mm} {q : Nat} (hq : q ≤ 1000) (h : ERs μ0 q μ) (rec : Int32 → Mm → Option (Int32 × Mm)) (o : Int32) (nt : Bool) : ∃ b μ1, sgK rec o (b2i nt) μ = some (b2i b, μ1) ∧ M3 μ μ1 ∧ ERs μ0 q μ1 := by
  obtain ⟨μ1, a1, a2, a3⟩ := x_testE hq h
  unfold sgK
  rw [jn_e, h.2.2.1, if_neg (by decide), a1, Option.bind_some]
  simp only []
  exact ⟨_, μ1, ite_bb false nt μ1, a2, a3⟩
