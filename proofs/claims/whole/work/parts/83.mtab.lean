/-! what the tables say: what holds, how one mouths, WEARS, COST -/
theorem QH_n {x : Er} (hx : QH x) : QH (nT x) := by
  intro C T p d kd v h a N K μ hC hT h19 hl hh hR hp hd hk hv e1 e2
  have el : (nT x).1.length = x.1.length + 1 := by
    show (x.1 ++ [10033]).length = _
    rw [List.length_append]
    rfl
  rw [el] at hl hh ⊢
  have hR' : Rp (μ 20) a (x.1 ++ [10033]) := hR
  obtain ⟨μ1, a1, a2, a3, a4⟩ := hx C T p d kd v h a (N + 1) K μ hC hT h19 (by omega) (by omega) hR'.left hp hd hk hv e1 e2
  have ec : μ1 20 (a + x.1.length) = -33 := by
    have := hR'.right 0 (Nat.zero_lt_one)
    rw [Nat.add_zero] at this
    rw [a2 20 (by omega), this]
    exact cd_33
  have h19' : μ1 19 C = nI T := by rw [a2 19 (by omega)]; exact h19
  have eh : nI (h + 1) - 1 = nI h := nI_s h 1
  rw [show N + (x.1.length + 1) = N + 1 + x.1.length by omega, a1]
  have fin : ∀ b : Bool, b = (nT x).2 (en p d kd v) → ∃ μ2, ((wrI μ1 26 100 (nI h) (vp_nar .boolean (b2i b))).bind fun μ27 => L_M_holds_11 (nI C) (nI p) (nI d) K N (nI (h + 1)) (nI (a + x.1.length) + 1) μ27) = L_M_holds_11 (nI C) (nI p) (nI d) K N (nI (h + 1)) (nI (a + (x.1.length + 1))) μ2 ∧ P26 μ μ2 ∧ (∀ q, q < h → μ2 26 q = μ 26 q) ∧ μ2 26 h = b2i ((nT x).2 (en p d kd v)) := fun b hb => by
    rw [nar_b, wrI_nI (by omega) (by omega), Option.bind_some, nI_1]
    exact ⟨_, rfl, fun c hc => (u_cf hc).trans (a2 c hc), fun q hq => (u_nj (by omega)).trans (a3 q hq), by rw [u_eq rfl rfl, hb]⟩
  rw [L_M_holds_11, rdI_nI hC (by omega), h19', Option.bind_some, ite_le (by omega) (by omega), if_neg (by omega), rdI_nI (by omega) (by omega), ec, Option.bind_some, jn_e, if_pos rfl, eh, rdI_nI (by omega) (by omega), a4, Option.bind_some, jn_e, ite_b0]
  have hv' : (nT x).2 (en p d kd v) = !x.2 (en p d kd v) := rfl
  rw [hv'] at fin ⊢
  by_cases c : x.2 (en p d kd v) = true
  · rw [if_pos c]; exact fin false (by rw [c]; rfl)
  · have c' : x.2 (en p d kd v) = false := by
      cases hc : x.2 (en p d kd v)
      · rfl
      · exact absurd hc c
    rw [if_neg c]; exact fin true (by rw [c']; rfl)
theorem add_m1' (k : Nat) : nI (k + 1) + (-1) = nI k := (add_m1 _).trans (nI_s k 1)
theorem QH_2 {x y : Er} (hx : QH x) (hy : QH y) (hy0 : 1 ≤ y.1.length) {z : Nat} (hz : z = 10038 ∨ z = 10124) {val : (Nat → Nat) → Bool} (hval : ∀ e, val e = if z = 10038 then (x.2 e && y.2 e) else (x.2 e || y.2 e)) : QH (x.1 ++ y.1 ++ [z], val) := by
  intro C T p d kd v h a N K μ hC hT h19 hl hh hR hp hd hk hv e1 e2
  have el : (x.1 ++ y.1 ++ [z], val).1.length = x.1.length + y.1.length + 1 := by
    show (x.1 ++ y.1 ++ [z]).length = _
    rw [List.length_append, List.length_append]
    rfl
  rw [el] at hl hh ⊢
  have hR' : Rp (μ 20) a (x.1 ++ y.1 ++ [z]) := hR
  obtain ⟨μ1, a1, a2, a3, a4⟩ := hx C T p d kd v h a (N + 1 + y.1.length) K μ hC hT h19 (by omega) (by omega) hR'.left.left hp hd hk hv e1 e2
  have h19' : μ1 19 C = nI T := by rw [a2 19 (by omega)]; exact h19
  obtain ⟨μ2, b1, b2, b3, b4⟩ := hy C T p d kd v (h + 1) (a + x.1.length) (N + 1) K μ1 hC hT h19' (by omega) (by omega) (by rw [a2 20 (by omega)]; exact hR'.left.right) hp hd hk hv (by rw [a2 4 (by omega)]; exact e1) (by rw [a2 5 (by omega)]; exact e2)
  have h19'' : μ2 19 C = nI T := by rw [b2 19 (by omega)]; exact h19'
  have ec : μ2 20 (a + x.1.length + y.1.length) = cd z := by
    have := hR'.right 0 (Nat.zero_lt_one)
    rw [Nat.add_zero, List.length_append] at this
    rw [b2 20 (by omega), a2 20 (by omega), show a + x.1.length + y.1.length = a + (x.1.length + y.1.length) by omega, this]
    rfl
  have v1 : μ2 26 h = b2i (x.2 (en p d kd v)) := (b3 h (by omega)).trans a4
  have eh : nI (h + 1 + 1) + (-1) = nI (h + 1) := add_m1' (h + 1)
  have eh2 : nI (h + 1) - 1 = nI h := nI_s h 1
  rw [show N + (x.1.length + y.1.length + 1) = N + 1 + y.1.length + x.1.length by omega, a1, b1]
  have fin : ∀ b : Bool, b = val (en p d kd v) → ∃ μ3, ((wrI μ2 26 100 (nI h) (vp_nar .boolean (b2i b))).bind fun μ23 => L_M_holds_11 (nI C) (nI p) (nI d) K N (nI (h + 1)) (nI (a + x.1.length + y.1.length) + 1) μ23) = L_M_holds_11 (nI C) (nI p) (nI d) K N (nI (h + 1)) (nI (a + (x.1.length + y.1.length + 1))) μ3 ∧ P26 μ μ3 ∧ (∀ q, q < h → μ3 26 q = μ 26 q) ∧ μ3 26 h = b2i (val (en p d kd v)) := fun b hb => by
    rw [nar_b, wrI_nI (by omega) (by omega), Option.bind_some, nI_1, show a + x.1.length + y.1.length + 1 = a + (x.1.length + y.1.length + 1) by omega]
    exact ⟨_, rfl, fun c hc => (u_cf hc).trans ((b2 c hc).trans (a2 c hc)), fun q hq => (u_nj (by omega)).trans ((b3 q (by omega)).trans (a3 q hq)), by rw [u_eq rfl rfl, hb]⟩
  have ne33 : ¬ cd z = -33 := by rcases hz with rfl | rfl <;> decide
  have nn : ¬ 0 ≤ cd z := by rcases hz with rfl | rfl <;> decide
  rw [L_M_holds_11, rdI_nI hC (by omega), h19'', Option.bind_some, ite_le (by omega) (by omega), if_neg (by omega), rdI_nI (by omega) (by omega), ec, Option.bind_some, jn_e, if_neg ne33, if_neg nn, jn_e, eh, eh2, rdI_nI (n := 100) (j := h) (by omega) (by omega), rdI_nI (n := 100) (j := h + 1) (by omega) (by omega), v1, b4]
  simp only [Option.bind_some, jn_e, ite_b0]
  have hv' := hval (en p d kd v)
  rcases hz with rfl | rfl
  · rw [if_pos (show cd 10038 = -38 by decide)]
    rw [if_pos rfl] at hv'
    cases cx : x.2 (en p d kd v)
    · rw [cx] at hv'
      rw [if_neg (by decide)]
      exact fin false hv'.symm
    · rw [cx] at hv'
      rw [if_pos rfl]
      cases cy : y.2 (en p d kd v)
      · rw [cy] at hv'
        rw [if_neg (by decide)]
        exact fin false hv'.symm
      · rw [cy] at hv'
        rw [if_pos rfl]
        exact fin true hv'.symm
  · rw [if_neg (show ¬ cd 10124 = -38 by decide)]
    rw [if_neg (by decide)] at hv'
    cases cx : x.2 (en p d kd v)
    · rw [cx] at hv'
      rw [if_neg (by decide)]
      cases cy : y.2 (en p d kd v)
      · rw [cy] at hv'
        rw [if_neg (by decide)]
        exact fin false hv'.symm
      · rw [cy] at hv'
        rw [if_pos rfl]
        exact fin true hv'.symm
    · rw [cx] at hv'
      rw [if_pos rfl]
      exact fin true hv'.symm
theorem len_2 {x y : List Nat} {z : Nat} : 1 ≤ (x ++ y ++ [z]).length := by
  rw [List.length_append]
  exact Nat.le_add_left 1 _
theorem len_1 {x : List Nat} {z : Nat} : 1 ≤ (x ++ [z]).length := by
  rw [List.length_append]
  exact Nat.le_add_left 1 _
theorem hQH : Clo (fun e => QH e ∧ 1 ≤ e.1.length) := ⟨fun f s n a b c => ⟨QH_t a b c, Nat.le_refl 1⟩, fun a h => ⟨QH_n h.1, len_1⟩, fun a b h1 h2 => ⟨QH_2 (z := 10038) h1.1 h2.1 h2.2 (Or.inl rfl) (fun e => rfl), len_2⟩, fun a b h1 h2 => ⟨QH_2 (z := 10124) h1.1 h2.1 h2.2 (Or.inr rfl) (fun e => rfl), len_2⟩⟩
theorem m_holds {e : Er} (hQ : QH e) {C p d kd v a : Nat} {μ : Mm} (hC : C < 60) (hl : a + e.1.length ≤ 600) (hh : e.1.length ≤ 100) (h18 : μ 18 C = nI a) (h19 : μ 19 C = nI (a + e.1.length)) (hR : Rp (μ 20) a e.1) (hp : p < 6) (hd : d < 6) (hk : kd ≤ 6) (hv : v ≤ 9) (e1 : μ 4 p = nI kd) (e2 : μ 5 p = nI v) : ∃ μ1, F_M_holds (nI C) (nI p) (nI d) μ = some (b2i (e.2 (en p d kd v)), μ1) ∧ P26 μ μ1 := by
  obtain ⟨N, hN⟩ : ∃ N, fu = N + 1 + e.1.length := ⟨fu - 1 - e.1.length, by have : fu = 100000 := rfl; omega⟩
  obtain ⟨μ1, a1, a2, a3, a4⟩ := hQ C (a + e.1.length) p d kd v 0 a (N + 1) (fun (μ32 : Mm) => (rdI (μ32 26) 100 0).bind fun v33 => (rZ v33).bind fun r_ => some (r_, μ32)) μ hC hl h19 (Nat.le_refl _) (by omega) hR hp hd hk hv e1 e2
  have h19' : μ1 19 C = nI (a + e.1.length) := by rw [a2 19 (by omega)]; exact h19
  unfold F_M_holds
  rw [rdI_nI hC (by omega), h18, Option.bind_some, hN]
  refine ⟨μ1, a1.trans ?_, a2⟩
  rw [L_M_holds_11, rdI_nI hC (by omega), h19', Option.bind_some, ite_le (by omega) (by omega), if_pos (Nat.le_refl _), q0, rdI_nI (by omega) (by omega), Option.bind_some, a4, rZ_b, Option.bind_some]
def GC (c : Cl) : Prop := c.1 < 4 ∧ c.2.1 ≤ 99 ∧ (c.1 < 2 → QH c.2.2) ∧ c.2.2.1.length ≤ 100
theorem pR_all {g : Nat → Nat} (hL : ∀ i, 100 ≤ i → g i = 200) : ∀ m j cs, j ≤ 100 → pR g m j = .inr cs → (∀ c, c ∈ cs → GC c) ∧ cs.length ≤ m ∧ j + sml cs ≤ 100 := by
  have nilC : ∀ (cs : List Cl) (j : Nat), j ≤ 100 → ([] : List Cl) = cs → (∀ c, c ∈ cs → GC c) ∧ cs.length = 0 ∧ j + sml cs ≤ 100 := fun cs j hj h => by
    subst h
    exact ⟨fun c hc => absurd hc List.not_mem_nil, rfl, hj⟩
  intro m
  induction m with
  | zero =>
    intro j cs hj h
    replace h : (if g j = 200 then .inr [] else .inl j : Nat ⊕ List Cl) = .inr cs := h
    by_cases c : g j = 200
    · rw [if_pos c] at h
      obtain ⟨a, b, d⟩ := nilC cs j hj (Sum.inr.inj h)
      exact ⟨a, by omega, d⟩
    · rw [if_neg c] at h; cases h
  | succ m ih =>
    intro j cs hj h
    replace h : (if g j = 200 then .inr [] else if g j = 59 then (match pC g (j + 1) with
      | .inl p => .inl p
      | .inr (c, j') => cns c (pR g m j')) else .inl j : Nat ⊕ List Cl) = .inr cs := h
    by_cases c : g j = 200
    · rw [if_pos c] at h
      obtain ⟨a, b, d⟩ := nilC cs j hj (Sum.inr.inj h)
      exact ⟨a, by omega, d⟩
    · rw [if_neg c] at h
      by_cases c2 : g j = 59
      · rw [if_pos c2] at h
        cases hc : pC g (j + 1) with
        | inl q => rw [hc] at h; cases h
        | inr y =>
          obtain ⟨cl, j'⟩ := y
          obtain ⟨d1, d2, d3, d4, d5, d6, d7⟩ := pC_all hQH hL hc
          rw [hc] at h
          replace h : cns cl (pR g m j') = .inr cs := h
          cases hr : pR g m j' with
          | inl q => rw [hr] at h; cases h
          | inr cs' =>
            rw [hr] at h
            have h' : cl :: cs' = cs := Sum.inr.inj h
            subst h'
            obtain ⟨e1, e2, e3⟩ := ih j' cs' d2 hr
            refine ⟨fun x hx => ?_, by show cs'.length + 1 ≤ m + 1; omega, by show j + (cl.2.2.1.length + sml cs') ≤ 100; omega⟩
            rcases List.mem_cons.mp hx with q | q
            · rw [q]; exact ⟨d4, d5, fun k => (d6 k).1, by omega⟩
            · exact e1 x q
      · rw [if_neg c2] at h; cases h
theorem pX_all {g : Nat → Nat} (hL : ∀ i, 100 ≤ i → g i = 200) {cs : List Cl} (h : pX g = .inr cs) : (∀ c, c ∈ cs → GC c) ∧ cs.length ≤ 10 ∧ sml cs ≤ 100 := by
  unfold pX at h
  cases hc : pC g 0 with
  | inl q => rw [hc] at h; cases h
  | inr y =>
    obtain ⟨cl, j'⟩ := y
    obtain ⟨d1, d2, d3, d4, d5, d6, d7⟩ := pC_all hQH hL hc
    rw [hc] at h
    replace h : cns cl (pR g 9 j') = .inr cs := h
    cases hr : pR g 9 j' with
    | inl q => rw [hr] at h; cases h
    | inr cs' =>
      rw [hr] at h
      have h' : cl :: cs' = cs := Sum.inr.inj h
      subst h'
      obtain ⟨e1, e2, e3⟩ := pR_all hL 9 j' cs' d2 hr
      refine ⟨fun x hx => ?_, by show cs'.length + 1 ≤ 10; omega, by show cl.2.2.1.length + sml cs' ≤ 100; omega⟩
      rcases List.mem_cons.mp hx with q | q
      · rw [q]; exact ⟨d4, d5, fun k => (d6 k).1, by omega⟩
      · exact e1 x q
/-- the room f holds, it has n clauses -/
def HD (f n : Nat) (μ : Mm) : Prop := μ 0 10 = nI f ∧ μ 15 f = nI n ∧ f ≤ 5 ∧ n ≤ 10
theorem HD.bg {f n : Nat} {μ : Mm} (h : HD f n μ) : F_M_begin μ = some (nI (10 * f)) := by
  have := h.2.2.1
  unfold F_M_begin
  rw [h.1, if_pos (nI_pos' (by omega)), q10, pk_mul]
theorem HD.bh {f n : Nat} {μ : Mm} (h : HD f n μ) : F_M_behind μ = some (nI (10 * f + n)) := by
  have := h.2.2.1
  unfold F_M_behind
  rw [h.1, if_pos (nI_pos' (by omega)), rdI_nI (by omega) (by omega), h.2.1, Option.bind_some, q10, pk_mul, nI_add]
theorem HD.mv {f n : Nat} {μ μ1 : Mm} (h : HD f n μ) (k : P26 μ μ1) : HD f n μ1 := ⟨by rw [k 0 (by omega)]; exact h.1, by rw [k 15 (by omega)]; exact h.2.1, h.2.2⟩
theorem TS.p26 {cs : List Cl} {C a : Nat} {μ μ1 : Mm} (h : TS C cs a μ) (k : P26 μ μ1) : TS C cs a μ1 := h.mv (fun x a b q _ _ => by rw [k x (by omega)]) (fun q _ _ => by rw [k 20 (by omega)])
theorem m_mouthL {f N : Nat} {p d kd v : Nat} (hp : p < 6) (hd : d < 6) (hk : kd ≤ 6) (hv : v ≤ 9) (k : Int32 → Mm → Option (Int32 × Mm)) : ∀ (cs : List Cl) (C a : Nat) (m : Mo) (n : Nat) (μ : Mm), HD f N μ → C + cs.length = 10 * f + N → (∀ c, c ∈ cs → GC c) → a + sml cs ≤ 600 → TS C cs a μ → cs.length < n → μ 4 p = nI kd → μ 5 p = nI v → ∃ μ1, L_M_mouth_8 (nI p) (nI d) k n (nI m.1 - nI m.2.1) (nI C) μ = k (nI (cls (en p d kd v) cs m).1 - nI (cls (en p d kd v) cs m).2.1) μ1 ∧ P26 μ μ1
  | [], C, a, m, n, μ, hH, hC, hg, ha, hT, hn, e1, e2 => by
    obtain ⟨N1, rfl⟩ : ∃ N, n = N + 1 := ⟨n - 1, by have : ([] : List Cl).length = 0 := rfl; omega⟩
    have hf := hH.2.2
    have hC' : C = 10 * f + N := hC
    rw [L_M_mouth_8, hH.bh, Option.bind_some, ite_le (by omega) (by omega), if_pos (by omega)]
    exact ⟨μ, rfl, P26.rf⟩
  | c :: cs, C, a, m, n, μ, hH, hC, hg, ha, hT, hn, e1, e2 => by
    obtain ⟨N1, rfl⟩ : ∃ N, n = N + 1 := ⟨n - 1, by omega⟩
    have hf := hH.2.2
    have hC' : C + (cs.length + 1) = 10 * f + N := hC
    have hn' : cs.length + 1 < N1 + 1 := hn
    have ha' : a + (c.2.2.1.length + sml cs) ≤ 600 := ha
    obtain ⟨⟨t1, t2, t3⟩, t4⟩ := hT
    obtain ⟨g1, g2, g3, g4⟩ := hg c (List.mem_cons_self ..)
    have hg' : ∀ x, x ∈ cs → GC x := fun x hx => hg x (List.mem_cons_of_mem c hx)
    have go : ∀ (m' : Mo) (μ1 : Mm), cl1 (en p d kd v) c m = m' ∨ (cl1 (en p d kd v) c m).1 = m'.1 ∧ (cl1 (en p d kd v) c m).2.1 = m'.2.1 → P26 μ μ1 → ∃ μ2, L_M_mouth_8 (nI p) (nI d) k N1 (nI m'.1 - nI m'.2.1) (nI C + 1) μ1 = k (nI (cls (en p d kd v) (c :: cs) m).1 - nI (cls (en p d kd v) (c :: cs) m).2.1) μ2 ∧ P26 μ μ2 := fun m' μ1 hm hP => by
      obtain ⟨μ2, b1, b2⟩ := m_mouthL hp hd hk hv k cs (C + 1) (a + c.2.2.1.length) (cl1 (en p d kd v) c m) N1 μ1 (hH.mv hP) (by omega) hg' (by omega) (t4.p26 hP) (by omega) (by rw [hP 4 (by omega)]; exact e1) (by rw [hP 5 (by omega)]; exact e2)
      refine ⟨μ2, ?_, fun x hx => (b2 x hx).trans (hP x hx)⟩
      rw [nI_1]
      rcases hm with q | ⟨q1, q2⟩
      · rw [← q]; exact b1
      · rw [← q1, ← q2]; exact b1
    rw [L_M_mouth_8, hH.bh, Option.bind_some, ite_le (by omega) (by omega), if_neg (by omega), rdI_nI (by omega) (by omega), t1, Option.bind_some, jn_e, q1, ite_lt (by omega) (by omega)]
    by_cases c1 : 1 < c.1
    · rw [if_pos c1]
      refine go m μ (Or.inr ?_) P26.rf
      unfold cl1
      by_cases w2 : c.1 = 2
      · rw [if_pos w2]; exact ⟨rfl, rfl⟩
      · rw [if_neg w2, if_pos (by omega)]; exact ⟨rfl, rfl⟩
    · obtain ⟨t5, t6, t7⟩ := t3 (by omega)
      obtain ⟨μ1, h1, h2⟩ := m_holds (g3 (by omega)) (C := C) (p := p) (d := d) (kd := kd) (v := v) (a := a) (μ := μ) (by omega) (by omega) g4 t5 t6 t7 hp hd hk hv e1 e2
      have u16 : μ1 16 C = nI c.1 := by rw [h2 16 (by omega)]; exact t1
      have u17 : μ1 17 C = nI c.2.1 := by rw [h2 17 (by omega)]; exact t2
      have hcl : cl1 (en p d kd v) c m = if c.2.2.2 (en p d kd v) = true then (if c.1 = 0 then (m.1 + c.2.1, m.2.1, m.2.2.1, m.2.2.2) else (m.1, m.2.1 + c.2.1, m.2.2.1, m.2.2.2)) else m := by
        unfold cl1
        rw [if_neg (show ¬ c.1 = 2 by omega), if_neg (show ¬ c.1 = 3 by omega)]
      rw [if_neg c1, h1, Option.bind_some]
      simp only [ite_b0]
      by_cases cb : c.2.2.2 (en p d kd v) = true
      · rw [if_pos cb] at hcl ⊢
        rw [rdI_nI (by omega) (by omega), u16, Option.bind_some, jn_e, rdI_nI (by omega) (by omega), u17, q0, ite_eq (by omega) (by omega), Option.bind_some, Option.bind_some]
        by_cases w0 : c.1 = 0
        · rw [if_pos w0] at hcl ⊢
          simp only []
          rw [sub_add_n]
          exact go (m.1 + c.2.1, m.2.1, m.2.2.1, m.2.2.2) μ1 (Or.inl hcl) h2
        · rw [if_neg w0] at hcl ⊢
          simp only []
          rw [sub_neg_n]
          exact go (m.1, m.2.1 + c.2.1, m.2.2.1, m.2.2.2) μ1 (Or.inl hcl) h2
      · rw [if_neg cb] at hcl ⊢
        exact go m μ1 (Or.inl hcl) h2
